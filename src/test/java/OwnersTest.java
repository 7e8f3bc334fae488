/** Promises 31 to 35. */
public final class OwnersTest {
    public static void main(String[] args) {
        judge();
        refusals();
        sorts();
        when();
        were();
        film();
        laws();
        Due.end();
    }

    private static HighWater three(int people) {
        HighWater x = Due.bay(people);
        x.island(0, 20, 0, 0);
        x.island(0, 30, 0, 0);
        x.island(5, 10, 6, 0);
        return x;
    }

    private static void tell(HighWater x, int s, int... owners) {
        Due.is("sheet", x.sheet(s, 2, owners.length), 1);
        for (int i = 0; i < owners.length; i++) {
            Due.is("cell", x.cell(s, i, owners[i]), 1);
        }
    }

    private static void judge() {
        HighWater x = three(2);
        tell(x, 1, -1, -1, -1);
        Due.is("nobody's", x.judge(1, 0), -1);
        x.go(0, 0, 0);
        Due.is("0 is otherwise", x.judge(1, 0), 0);
        x.cell(1, 0, 0);
        Due.is("2 is otherwise", x.judge(1, 0), 2);
        x.cell(1, 2, 0);
        Due.is("none", x.judge(1, 0), -1);
        x.go(1, 0, 1);
        Due.is("1 is otherwise", x.judge(1, 0), 1);
        x.cell(1, 1, 1);
        Due.is("none", x.judge(1, 0), -1);
        x.cell(1, 1, 2);
        Due.is("no one is told", x.judge(1, 0), 1);
        Due.is("another tide", x.judge(1, 11), 0);
        Due.is("tide 12", x.judge(1, 12), -5);
        Due.is("tide -1", x.judge(1, -1), -5);
    }

    private static void refusals() {
        HighWater x = three(1);
        tell(x, 0, -1, -1);
        tell(x, 1, -1, -1, -1);
        tell(x, 2, -1, -1, -1, -1);
        for (int s : new int[] {-1, 4, Integer.MAX_VALUE}) {
            Due.is("judge", x.judge(s, 12), -2);
            Due.is("when", x.when(s), -2);
            Due.is("were", x.were(s, 12, 9, 9), -2);
        }
        Due.is("judge missing", x.judge(3, 12), -11);
        Due.is("when missing", x.when(3), -11);
        Due.is("were missing", x.were(3, 12, 9, 9), -11);
        for (int s = 0; s < 3; s += 2) {
            Due.is("judge of another size", x.judge(s, 12), -2);
            Due.is("when of another size", x.when(s), -2);
            Due.is("were of another size", x.were(s, 12, 9, 9), -2);
        }
        Due.is("judge", x.judge(1, 12), -5);
        Due.is("were tide", x.were(1, 12, 0, 9), -5);
        Due.is("were tide", x.were(1, -1, 0, 9), -5);
        Due.is("were who", x.were(1, 0, 1, 9), -5);
        Due.is("were who", x.were(1, 0, -1, 0), -5);
        Due.is("were what", x.were(1, 0, 0, 2), -7);
        Due.is("were what", x.were(1, 0, 0, -1), -7);
    }

    /** Bytes and shorts tell as well as ints; -1 stays -1 in them. */
    private static void sorts() {
        HighWater x = three(2);
        x.go(1, 0, 1);
        for (int sort = 0; sort < 3; sort++) {
            x.sheet(0, sort, 3);
            x.cell(0, 0, -1);
            x.cell(0, 1, 1);
            x.cell(0, 2, -1);
            Due.is("sort " + sort, x.judge(0, 0), -1);
            x.cell(0, 1, 257);
            Due.is("257 of sort " + sort, x.judge(0, 0), sort == 0 ? -1 : 1);
            x.cell(0, 1, 65537);
            Due.is("65537 of sort " + sort, x.judge(0, 0), sort < 2 ? -1 : 1);
            x.cell(0, 1, 1);
            x.cell(0, 0, 255);
            Due.is("255 of sort " + sort, x.judge(0, 0), sort == 0 ? -1 : 0);
            x.cell(0, 0, 65535);
            Due.is("65535 of sort " + sort, x.judge(0, 0), sort < 2 ? -1 : 0);
        }
    }

    private static void when() {
        HighWater x = three(2);
        tell(x, 2, 0, -1, 0);
        Due.is("never", x.when(2), 0);
        x.go(0, 0, 0);
        x.go(0, 3, 2);
        x.go(0, 5, 1);
        x.go(0, 6, 0);
        x.go(1, 6, 1);
        x.go(0, 11, 0);
        x.tide(3, 9);
        Due.is("0 and 11", x.when(2), 1 + 2048);
        tell(x, 2, -1, -1, -1);
        Due.is("nobody's", x.when(2), 4095 - 1 - 8 - 32 - 64 - 2048);
        HighWater none = new HighWater();
        none.sheet(0, 1, 0);
        Due.is("no islands", none.when(0), 4095);
    }

    private static void were(HighWater x, int who, int howMany, int places) {
        Due.is("were, how many", x.were(0, 0, who, 0), howMany);
        Due.is("were, places of " + who, x.were(0, 0, who, 1), places);
    }

    private static void were() {
        HighWater x = three(2);
        tell(x, 0, 0, -1, 0);
        // One is on 0 or 2, the other one on the shore.
        were(x, 0, 2, 2 + 8);
        were(x, 1, 2, 1);
        tell(x, 0, 0, 1, 0);
        were(x, 0, 2, 2 + 8);
        were(x, 1, 2, 4);
        tell(x, 0, -1, -1, -1);
        // Both on the shore, or both on 0 and 2, or both on 1.
        were(x, 0, 1 + 4 + 1, 1 + 2 + 4 + 8);
        tell(x, 0, 0, -1, -1);
        were(x, 0, 0, 0);
        x.tide(0, 6);
        were(x, 0, 1, 2);
        were(x, 1, 1, 1);
        Due.is("it changes nothing", x.at(0, 0), -1);
        HighWater y = Due.bay(1);
        y.island(2, 10, 4, 0);
        tell(y, 0, -1);
        // Under water nobody is there.
        were(y, 0, 2, 3);
        y.tide(0, 4);
        were(y, 0, 1, 1);
        HighWater none = Due.bay(2);
        none.sheet(0, 0, 0);
        were(none, 1, 1, 1);
    }

    private static void film() {
        HighWater x = three(2);
        x.go(0, 4, 2);
        x.go(1, 4, 1);
        Due.is("film", x.film(3, 4), 3);
        Due.is("judge", x.judge(3, 4), -1);
        Due.is("when", x.when(3), 16);
        Due.is("it is of ints", x.islandsBy(3, 2, 3, 1), -12);
        Due.is("it is of its size", x.cell(3, 3, 0), -12);
        x.sheet(0, 2, 3);
        x.cell(0, 0, 0);
        x.cell(0, 1, 1);
        x.cell(0, 2, 0);
        Due.is("by hand", x.judge(0, 4), -1);
        x.sheet(1, 0, 40);
        Due.is("film over another one", x.film(1, 0), 3);
        Due.is("judge", x.judge(1, 0), -1);
        Due.is("judge", x.judge(1, 4), 0);
        Due.is("it is of ints now", x.copy(1, 0, 0, 0, 3), 3);
        x.go(0, 4, -1);
        Due.is("a film stays", x.judge(3, 4), 0);
        Due.is("sheet 4", x.film(4, 12), -2);
        Due.is("sheet -1", x.film(-1, 0), -2);
        Due.is("tide 12", x.film(0, 12), -5);
        Due.is("tide -1", x.film(0, -1), -5);
        Due.is("refusals change nothing", x.when(0), 4095 - 16);
        HighWater none = new HighWater();
        Due.is("no islands", none.film(0, 0), 0);
        Due.is("no places", none.cell(0, 0, 0), -12);
    }

    private static void laws() {
        HighWater x = three(2);
        x.go(0, 2, 0);
        Due.text(x, "worth told * 2; costs 0; storm 0;");
        Due.text(x, "worth tide * 15; costs 0; storm 0;");
        Due.text(x, "worth number; costs 0; storm 0;");
        Due.is("30", x.laws(0, 2, 30), 1);
        Due.is("60", x.laws(0, 2, 60), 2 + 4);
        Due.is("2", x.laws(0, 2, 2), 8);
        Due.is("0", x.laws(0, 2, 0), 0);
        Due.is("the other's 0", x.laws(1, 2, 0), 15);
        Due.is("99999", x.laws(0, 2, 99999), 0);
        Due.is("the law stays", x.count(3), 0);
        x.force(1);
        Due.is("30 under another law", x.laws(0, 2, 30), 1);
        Due.is("much -1", x.laws(0, 2, -1), -7);
        Due.is("much 100000", x.laws(0, 2, 100000), -7);
        Due.is("nobody", x.laws(2, 2, -1), -5);
        Due.is("nobody", x.laws(-1, 2, 0), -5);
        Due.is("tide 12", x.laws(0, 12, 0), -5);
        Due.is("tide -1", x.laws(0, -1, -1), -5);
    }
}
