import java.util.List;
import java.util.function.Supplier;

/** "What is asked changes nothing, but where it is told." */
public final class AskedTest {
    private static final int PEOPLE = 2, ISLANDS = 3;

    private interface Ask {
        long of(HighWater x, int p, int t, int i, int what);
    }

    private static final List<Supplier<HighWater>> BAYS = List.of(Bays::full, Bays::half);

    public static void main(String[] args) {
        asked();
        answersStay();
        Due.end();
    }

    private static void asked() {
        changesNothing("height", (x, p, t, i, what) -> x.height(t));
        changesNothing("at", (x, p, t, i, what) -> x.at(p, t));
        changesNothing("count", (x, p, t, i, what) -> x.count(i));
        changesNothing("asks", (x, p, t, i, what) -> x.asks(i, t, t, p, t));
        changesNothing("told", (x, p, t, i, what) -> x.told(i, what));
        changesNothing("then", (x, p, t, i, what) -> x.then(i, t, what));
        changesNothing("joined", (x, p, t, i, what) -> x.joined(i, p));
        changesNothing("whose", (x, p, t, i, what) -> x.whose(i, t));
        changesNothing("gain", (x, p, t, i, what) -> x.gain(p, t));
        changesNothing("costs", (x, p, t, i, what) -> x.costs(p, t));
        changesNothing("year", (x, p, t, i, what) -> x.year(p, i));
        changesNothing("best", (x, p, t, i, what) -> x.best(p, t, what));
        changesNothing("rest", (x, p, t, i, what) -> x.rest(t));
        changesNothing("ways", (x, p, t, i, what) -> x.ways(t, what));
        changesNothing("family", (x, p, t, i, what) -> x.family(1 + i, t, what));
        changesNothing("spoil", (x, p, t, i, what) -> x.spoil(p, t, what));
        changesNothing("ransom", (x, p, t, i, what) -> x.ransom(p, 1 - p, t));
        changesNothing("share", (x, p, t, i, what) -> x.share(p, t, 1 - p, what));
        changesNothing("unfair", (x, p, t, i, what) -> x.unfair(t, p, what));
        changesNothing("dear", (x, p, t, i, what) -> x.dear(i));
        changesNothing("holds", (x, p, t, i, what) -> x.holds(p, i, what));
        changesNothing("judge", (x, p, t, i, what) -> x.judge(0, t));
        changesNothing("when", (x, p, t, i, what) -> x.when(0));
        changesNothing("were", (x, p, t, i, what) -> x.were(0, t, p, what));
        changesNothing("laws", (x, p, t, i, what) -> x.laws(p, t, i));
        changesNothing("drawn", (x, p, t, i, what) -> x.drawn(i, p, t, what));
        changesNothing("mean", (x, p, t, i, what) -> x.mean(p, t, i, 5, what));
        changesNothing("taken", (x, p, t, i, what) -> x.taken(12 + i, what));
        changesNothing("copy of none", (x, p, t, i, what) -> x.copy(0, i, 0, p, 0));
        changesNothing("islandsBy of none", (x, p, t, i, what) -> x.islandsBy(0, 0, 0, 0));
        changesNothing("islandsBy of none", (x, p, t, i, what) -> x.islandsBy(0, 2, 0, 0));
    }

    private static void changesNothing(String call, Ask ask) {
        Due.sentence("What is asked changes nothing, but where it is told");
        for (Supplier<HighWater> bay : BAYS) {
            HighWater x = bay.get();
            for (int t = 0; t < 12; t++) {
                for (int p = 0; p < PEOPLE; p++) {
                    ask.of(x, p, t, t % ISLANDS, (t + p) % 2);
                }
            }
            Due.same(call, x, bay.get());
        }
    }

    /** Asked again, a bay says the same again, whatever is asked between. */
    private static void answersStay() {
        Due.sentence("What is asked changes nothing: the same again");
        for (Supplier<HighWater> bay : BAYS) {
            HighWater x = bay.get();
            long[] first = new long[3];
            for (int round = 0; round < 3; round++) {
                for (int p = 0; p < PEOPLE; p++) {
                    first[round] = first[round] * 31 + all(x, p, 2);
                }
            }
            Due.is("asked again", first[1], first[0]);
            Due.is("asked once more", first[2], first[0]);
        }
    }

    private static long all(HighWater x, int p, int t) {
        long[] answers = {x.ways(t, 0), x.ways(t, 1), x.gain(p, t), x.family(3, t, 0), x.gain(p, t), x.family(3, t, 1),
            x.best(p, t, 0), x.spoil(p, t, 0), x.whose(0, t), x.spoil(p, t, 1), x.best(p, t, 1), x.ransom(p, 1 - p, t),
            x.rest(t), x.drawn(5, p, t, 0), x.gain(p, t), x.drawn(5, p, t, 1), x.mean(p, t, 5, 40, 0), x.costs(p, t),
            x.were(0, t, p, 0), x.judge(0, t), x.were(0, t, p, 1), x.laws(p, t, 0), x.gain(p, t), x.count(3),
            x.share(p, t, 0, 0), x.share(p, t, 0, 1), x.unfair(t, 0, 0), x.dear(2), x.holds(p, 0, 0), x.when(0),
            x.year(p, 0), x.rest(t), x.joined(0, 1), x.then(0, t, 2)};
        long sum = 0;
        for (long answer : answers) {
            sum = sum * 1009 + answer;
        }
        return sum;
    }
}
