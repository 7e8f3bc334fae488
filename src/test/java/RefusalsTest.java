import java.util.ArrayList;
import java.util.List;
import java.util.function.Supplier;

/**
 * "REFUSALS, of several the first one told": each call with all that can be taken and be refused of each of its
 * numbers, the least and the most that is taken and the first beyond on either side among them, each with each; what
 * is refused leaves everything as it was.
 */
public final class RefusalsTest {
    private static final int TAKEN = 100;
    private static final int MIN = Integer.MIN_VALUE, MAX = Integer.MAX_VALUE;
    /** Calls of one object between its making and the telling of all that it keeps: below 512 in all. */
    private static final int ROUND = 100;

    private interface Ask {
        long of(HighWater x, int[] a);
    }

    /** A number for a call; its refusal, and how early that is told. */
    private record Number(int value, int rank, long refusal) {
    }

    /** How a bay is made, and what the calls' numbers are held to there. */
    private record Bay(Supplier<HighWater> made, int people, int islands, int texts, int[] sizes) {
    }

    private final Bay bay;

    private RefusalsTest(Bay bay) {
        this.bay = bay;
    }

    public static void main(String[] args) {
        int missing = -1;
        List<Bay> bays = List.of(
                new Bay(Bays::full, 4, 6, 3, new int[] {6, 12, missing, 7}),
                new Bay(Bays::half, 2, 3, 1, new int[] {3, missing, 5, 4}),
                new Bay(Bays::allTexts, 1, 0, 6, new int[] {0, missing, 40, missing}),
                new Bay(HighWater::new, 0, 0, 1, new int[] {missing, missing, missing, missing}));
        for (Bay bay : bays) {
            RefusalsTest test = new RefusalsTest(bay);
            test.tidesPeopleLaw();
            test.islands();
            test.whose();
            test.families();
            test.parting();
            test.owners();
            test.storms();
            test.host();
        }
        Due.end();
    }

    // ---- numbers

    /** The least and the most, the first beyond on either side, and the farthest. */
    private static List<Number> from(int least, int most, int rank, long refusal) {
        List<Number> all = new ArrayList<>();
        if (least <= most) {
            all.add(new Number(least, TAKEN, 0));
        }
        if (least < most) {
            all.add(new Number(most, TAKEN, 0));
        }
        for (int bad : new int[] {least - 1, most + 1, MIN, MAX}) {
            all.add(new Number(bad, rank, refusal));
        }
        return all;
    }

    private static List<Number> tide(int rank) {
        return from(0, 11, rank, -5);
    }

    private List<Number> one(int rank) {
        return from(0, bay.people - 1, rank, -5);
    }

    private List<Number> isle(int rank) {
        return from(0, bay.islands - 1, rank, -5);
    }

    private static List<Number> anything() {
        return List.of(new Number(0, TAKEN, 0), new Number(MIN, TAKEN, 0), new Number(MAX, TAKEN, 0));
    }

    /** BAD: SHEET; -11, where one that is missing is refused; BAD, where it has to have a size. */
    private List<Number> sheet(boolean canMiss, int size) {
        List<Number> all = new ArrayList<>();
        for (int bad : new int[] {-1, 4, MIN, MAX}) {
            all.add(new Number(bad, 0, -2));
        }
        for (int s = 0; s < 4; s++) {
            if (bay.sizes[s] < 0 && !canMiss) {
                all.add(new Number(s, 1, -11));
            } else if (size >= 0 && bay.sizes[s] != size) {
                all.add(new Number(s, 2, -2));
            } else {
                all.add(new Number(s, TAKEN, 0));
            }
        }
        return all;
    }

    // ---- each with each

    @SafeVarargs
    private void refuses(String call, Ask ask, List<Number>... numbers) {
        Due.sentence(call + " of " + bay.people + " people, " + bay.islands + " islands");
        List<int[]> refused = new ArrayList<>();
        List<Long> dues = new ArrayList<>();
        int ways = 1;
        for (List<Number> some : numbers) {
            ways *= some.size();
        }
        for (int way = 0; way < ways; way++) {
            int[] a = new int[numbers.length];
            Number first = null;
            int rest = way;
            for (int k = 0; k < a.length; k++) {
                Number number = numbers[k].get(rest % numbers[k].size());
                rest /= numbers[k].size();
                a[k] = number.value;
                if (first == null || number.rank < first.rank) {
                    first = number;
                }
            }
            if (first.rank == TAKEN) {
                taken(call, ask, a);
            } else {
                refused.add(a);
                dues.add(first.refusal);
            }
        }
        changesNothing(call, ask, refused, dues);
    }

    private void taken(String call, Ask ask, int[] a) {
        long answer = ask.of(bay.made.get(), a);
        boolean isRefusal = answer < -1 && answer > -100 || answer == HighWater.NO;
        Due.isTrue(told(call, a) + " is taken, not " + answer, !isRefusal);
    }

    private void changesNothing(String call, Ask ask, List<int[]> refused, List<Long> dues) {
        for (int from = 0; from < refused.size(); from += ROUND) {
            HighWater x = bay.made.get();
            int to = Math.min(refused.size(), from + ROUND);
            for (int k = from; k < to; k++) {
                Due.is(told(call, refused.get(k)), ask.of(x, refused.get(k)), dues.get(k));
            }
            Due.same(call + ", refused,", x, bay.made.get());
        }
    }

    private static String told(String call, int[] a) {
        StringBuilder told = new StringBuilder(call).append("(");
        for (int k = 0; k < a.length; k++) {
            told.append(k == 0 ? "" : ", ").append(a[k]);
        }
        return told.append(")").toString();
    }

    // ---- the calls

    private void tidesPeopleLaw() {
        refuses("tide", (x, a) -> x.tide(a[0], a[1]), tide(0), from(0, 9, 1, -7));
        refuses("height", (x, a) -> x.height(a[0]), tide(0));
        refuses("go", (x, a) -> x.go(a[0], a[1], a[2]), one(0), tide(0), from(-1, bay.islands - 1, 1, -7));
        refuses("at", (x, a) -> x.at(a[0], a[1]), one(0), tide(0));
        refuses("count", (x, a) -> x.count(a[0]), from(0, 4, 0, -2));
        List<Number> aByte = List.of(new Number(0, TAKEN, 0), new Number(255, TAKEN, 0), new Number(-1, 0, -2),
                new Number(256, 0, -2));
        refuses("feed", (x, a) -> x.feed(a[0], a[1], a[2], a[3], a[4], a[5]), from(1, 5, 0, -2), aByte, aByte, aByte,
                aByte, aByte);
        refuses("feed", (x, a) -> x.feed(3, a[0], 1, 1, 1, a[1]), from(0, 255, 0, -2), from(0, 255, 0, -2));
        refuses("force", (x, a) -> x.force(a[0]), from(0, bay.texts - 1, 0, -2));
        refuses("asks", (x, a) -> x.asks(a[0], a[1], a[2], a[3], a[4]), from(0, 2, 0, -2), from(0, 99, 0, -2),
                from(0, 99, 0, -2), from(0, 9, 0, -2), from(0, 119, 0, -2));
        if (bay.people == 4) {
            refuses("come", (x, a) -> x.come(), List.of(new Number(0, 0, -4)));
        }
        if (bay.texts == 6) {
            refuses("text", (x, a) -> x.text(), List.of(new Number(0, 0, -4)));
        }
    }

    private void islands() {
        // FULL is told behind BAD.
        int full = bay.islands == 6 ? 1 : TAKEN;
        List<Number> room = List.of(new Number(0, full, -4));
        refuses("island", (x, a) -> x.island(a[0], a[1], a[2], a[3]), from(0, 5, 0, -2), from(0, 99, 0, -2),
                from(0, 9, 0, -2), from(0, 9, 0, -2), room);
        refuses("told", (x, a) -> x.told(a[0], a[1]), isle(0), from(0, 3, 1, -7));
        refuses("then", (x, a) -> x.then(a[0], a[1], a[2]), isle(0), tide(0), from(0, 2, 1, -7));
        refuses("joined", (x, a) -> x.joined(a[0], a[1]), isle(0), isle(0));
    }

    private void whose() {
        refuses("whose", (x, a) -> x.whose(a[0], a[1]), isle(0), tide(0));
        refuses("gain", (x, a) -> x.gain(a[0], a[1]), one(0), tide(0));
        refuses("costs", (x, a) -> x.costs(a[0], a[1]), one(0), tide(0));
        refuses("year", (x, a) -> x.year(a[0], a[1]), one(0), from(0, 2, 1, -7));
        refuses("best", (x, a) -> x.best(a[0], a[1], a[2]), one(0), tide(0), from(0, 1, 1, -7));
        refuses("wise", (x, a) -> x.wise(a[0]), one(0));
        refuses("rest", (x, a) -> x.rest(a[0]), tide(0));
        refuses("ways", (x, a) -> x.ways(a[0], a[1]), tide(0), from(0, 1, 1, -7));
    }

    private void families() {
        refuses("family", (x, a) -> x.family(a[0], a[1], a[2]), from(0, (1 << bay.people) - 1, 0, -5), tide(0),
                from(0, 1, 1, -7));
        refuses("spoil", (x, a) -> x.spoil(a[0], a[1], a[2]), one(0), tide(0), from(0, 1, 1, -7));
        List<Number> bad = new ArrayList<>(one(0));
        bad.removeIf(number -> number.rank == TAKEN);
        refuses("ransom", (x, a) -> x.ransom(a[0], a[1], a[2]), one(0), bad, tide(0));
        refuses("ransom", (x, a) -> x.ransom(a[0], a[1], a[2]), bad, one(0), tide(0));
        for (int p = 0; p < bay.people; p++) {
            for (int other = 0; other < bay.people; other++) {
                List<Number> two = List.of(new Number(p, p == other ? 0 : TAKEN, -5));
                List<Number> others = List.of(new Number(other, TAKEN, 0));
                refuses("ransom", (x, a) -> x.ransom(a[0], a[1], a[2]), two, others, tide(0));
            }
        }
    }

    private void parting() {
        refuses("share", (x, a) -> x.share(a[0], a[1], a[2], a[3]), one(0), tide(0), one(0), from(0, 1, 1, -7));
        refuses("unfair", (x, a) -> x.unfair(a[0], a[1], a[2]), tide(0), one(0), from(0, 1, 1, -7));
        refuses("dear", (x, a) -> x.dear(a[0]), from(0, 3, 0, -2));
        refuses("holds", (x, a) -> x.holds(a[0], a[1], a[2]), one(0), isle(0), from(0, 1, 1, -7));
    }

    private void owners() {
        refuses("judge", (x, a) -> x.judge(a[0], a[1]), sheet(false, bay.islands), tide(3));
        refuses("when", (x, a) -> x.when(a[0]), sheet(false, bay.islands));
        refuses("were", (x, a) -> x.were(a[0], a[1], a[2], a[3]), sheet(false, bay.islands), tide(3), one(3),
                from(0, 1, 4, -7));
        refuses("film", (x, a) -> x.film(a[0], a[1]), sheet(true, -1), tide(1));
        refuses("laws", (x, a) -> x.laws(a[0], a[1], a[2]), one(0), tide(0), from(0, 99999, 1, -7));
    }

    private void storms() {
        refuses("drawn", (x, a) -> x.drawn(a[0], a[1], a[2], a[3]), from(0, 99999, 1, -7), one(0), tide(0),
                from(0, 1, 1, -7));
        long no = HighWater.NO;
        refuses("mean", (x, a) -> x.mean(a[0], a[1], a[2], a[3], a[4]), from(0, bay.people - 1, 0, no),
                from(0, 11, 0, no), from(0, 99999, 0, no), from(1, 40, 0, no), from(0, 1, 0, no));
        if (bay.texts == 1) {
            refuses("back", (x, a) -> x.back(), List.of(new Number(0, 0, -3)));
        }
    }

    private void host() {
        List<Number> sorts = from(0, 2, 0, -2);
        sorts.removeIf(number -> number.value == -1);
        List<Number> sizes = new ArrayList<>(List.of(new Number(0, TAKEN, 0), new Number(40, TAKEN, 0)));
        sizes.addAll(List.of(new Number(41, 0, -2), new Number(MAX, 0, -2)));
        sizes.addAll(List.of(new Number(-1, 1, -14), new Number(MIN, 1, -14)));
        refuses("sheet", (x, a) -> x.sheet(a[0], a[1], a[2]), from(0, 3, 0, -2), sorts, sizes);
        refuses("sheet of sort -2", (x, a) -> x.sheet(a[0], -2, a[1]), from(0, 3, 0, -2),
                List.of(new Number(0, 0, -2), new Number(-1, 0, -2)));
        refuses("sheet that is to miss", (x, a) -> x.sheet(a[0], -1, a[1]), from(0, 3, 0, -2), anything());
        for (int s = 0; s < 4; s++) {
            ofOneSheet(s);
            for (int other = 0; other < 4; other++) {
                copies(s, other);
            }
        }
        List<Number> three = from(0, 3, 0, -2);
        three.removeIf(number -> number.rank == TAKEN);
        refuses("cell", (x, a) -> x.cell(a[0], a[1], a[2]), three, anything(), anything());
        refuses("copy", (x, a) -> x.copy(a[0], a[1], a[2], a[3], a[4]), three, anything(), from(0, 3, 0, -2),
                anything(), anything());
        refuses("copy", (x, a) -> x.copy(a[0], a[1], a[2], a[3], a[4]), from(0, 3, 1, -2), anything(), three,
                anything(), anything());
        refuses("islandsBy", (x, a) -> x.islandsBy(a[0], a[1], a[2], a[3]), three, from(0, 2, 0, -2), anything(),
                from(0, 6, 0, -2));
        takes();
    }

    private int sortOf(int s) {
        HighWater x = bay.made.get();
        for (int sort = 0; sort < 3; sort++) {
            if (x.islandsBy(s, sort, 0, 0) == 0) {
                return sort;
            }
        }
        return -1;
    }

    private void ofOneSheet(int s) {
        int size = bay.sizes[s];
        boolean isMissing = size < 0;
        List<Number> sheet = List.of(new Number(s, isMissing ? 1 : TAKEN, -11));
        List<Number> places = isMissing ? anything() : from(0, size - 1, 2, -12);
        refuses("cell", (x, a) -> x.cell(a[0], a[1], a[2]), sheet, places, anything());
        List<Number> sorts = new ArrayList<>();
        for (int sort = -1; sort < 4; sort++) {
            boolean isSort = sort >= 0 && sort < 3;
            sorts.add(new Number(sort, !isSort ? 0 : sort == sortOf(s) ? TAKEN : 2, isSort ? -13 : -2));
        }
        List<Number> at = isMissing ? anything() : from(0, size - 4, 3, -12);
        List<Number> some = from(1, 6, 0, -2);
        some.removeIf(number -> number.value == 0 || number.value == 6);
        refuses("islandsBy", (x, a) -> x.islandsBy(a[0], a[1], a[2], a[3]), sheet, sorts, at, some);
        // Of none no place is outside.
        refuses("islandsBy", (x, a) -> x.islandsBy(a[0], a[1], a[2], a[3]), sheet, sorts, anything(),
                List.of(new Number(0, TAKEN, 0)));
    }

    private void copies(int s, int other) {
        int size = bay.sizes[s];
        int otherSize = bay.sizes[other];
        boolean isMissing = size < 0 || otherSize < 0;
        boolean isUnlike = sortOf(s) != sortOf(other);
        List<Number> from = List.of(new Number(s, isMissing ? 1 : isUnlike ? 2 : TAKEN, isMissing ? -11 : -13));
        List<Number> to = List.of(new Number(other, TAKEN, 0));
        Ask copy = (x, a) -> x.copy(a[0], a[1], a[2], a[3], a[4]);
        if (isMissing || isUnlike) {
            refuses("copy", copy, from, anything(), to, anything(), anything());
            return;
        }
        for (int n : new int[] {0, 1, Math.min(size, otherSize)}) {
            refuses("copy", copy, from, from(0, size - n, 3, -12), to, from(0, otherSize - n, 3, -12),
                    List.of(new Number(n, TAKEN, 0)));
        }
        List<Number> nowhere = List.of(new Number(-1, 3, -12), new Number(MIN, 3, -12),
                new Number(Math.min(size, otherSize) + 1, 3, -12), new Number(MAX, 3, -12));
        refuses("copy", copy, from, anything(), to, anything(), nowhere);
    }

    private void takes() {
        List<Number> kinds = from(0, 6, 0, -2);
        List<Number> outside = from(0, 17, 1, -12);
        outside.removeIf(number -> number.rank == TAKEN);
        refuses("taken", (x, a) -> x.taken(a[0], a[1]), outside, kinds);
        List<Number> nothing = new ArrayList<>();
        for (int i = bay.islands; i < 6; i++) {
            nothing.add(new Number(12 + i, 2, -11));
        }
        if (bay.islands == 6) {
            // A TIDE that is 0 HIGH.
            nothing.add(new Number(7, 2, -11));
        }
        refuses("taken", (x, a) -> x.taken(a[0], a[1]), nothing, kinds);
        List<Number> aTide = List.of(new Number(0, TAKEN, 0), new Number(11, TAKEN, 0));
        List<Number> forTides = List.of(new Number(0, 3, -13), new Number(5, 3, -13), new Number(6, TAKEN, 0));
        refuses("taken", (x, a) -> x.taken(a[0], a[1]), aTide, forTides);
        for (int i = 0; i < bay.islands; i++) {
            List<Number> anIsland = List.of(new Number(12 + i, TAKEN, 0));
            List<Number> forIslands = List.of(new Number(0, TAKEN, 0), new Number(6, 3, -13));
            refuses("taken", (x, a) -> x.taken(a[0], a[1]), anIsland, forIslands);
        }
    }
}
