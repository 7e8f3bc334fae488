/** Promises 27 to 30. */
public final class PartingTest {
    public static void main(String[] args) {
        share();
        unfair();
        dear();
        holds();
        Due.end();
    }

    /** Six ISLANDS of WORTH 10, 60, 30, 60 (LOW, RISES 4), 20, 50. */
    private static HighWater six(int people) {
        HighWater x = Due.bay(people);
        x.island(0, 10, 0, 0);
        x.island(0, 60, 0, 0);
        x.island(0, 30, 0, 0);
        x.island(2, 60, 4, 0);
        x.island(0, 20, 0, 0);
        x.island(0, 50, 0, 0);
        return x;
    }

    private static void shares(HighWater x, int t, int from, int turned, int... due) {
        for (int p = 0; p < due.length; p++) {
            Due.is("share of " + p + " from " + from + " turned " + turned, x.share(p, t, from, turned), due[p]);
        }
    }

    private static void share() {
        HighWater x = six(2);
        x.tide(1, 4);
        // At 0: 60 50 30 20 10; at 1: 60 60 50 30 20 10.
        shares(x, 0, 0, 0, 60 + 30 + 10, 50 + 20);
        shares(x, 0, 1, 0, 50 + 20, 60 + 30 + 10);
        shares(x, 0, 0, 1, 60 + 20 + 10, 50 + 30);
        shares(x, 0, 1, 1, 50 + 30, 60 + 20 + 10);
        shares(x, 1, 0, 0, 60 + 50 + 20, 60 + 30 + 10);
        shares(x, 1, 0, 1, 60 + 30 + 20, 60 + 50 + 10);
        HighWater three = six(3);
        three.tide(1, 4);
        shares(three, 1, 0, 0, 60 + 30, 60 + 20, 50 + 10);
        shares(three, 1, 1, 0, 50 + 10, 60 + 30, 60 + 20);
        shares(three, 1, 2, 0, 60 + 20, 50 + 10, 60 + 30);
        shares(three, 1, 1, 1, 50 + 30, 60 + 10, 60 + 20);
        HighWater four = six(4);
        four.tide(1, 4);
        // 60 60 50 30, then 20 10: from 2: 2 3 0 1, turned 1 0.
        shares(four, 1, 2, 0, 50, 30, 60 + 20, 60 + 10);
        shares(four, 1, 2, 1, 50 + 10, 30 + 20, 60, 60);
        HighWater one = six(1);
        shares(one, 0, 0, 0, 170);
        shares(one, 0, 0, 1, 170);
        HighWater none = Due.bay(2);
        shares(none, 0, 0, 0, 0, 0);
        Due.is("nobody", x.share(2, 0, 0, 0), -5);
        Due.is("nobody", x.share(-1, 0, 0, 0), -5);
        Due.is("nobody", x.share(0, 0, 2, 0), -5);
        Due.is("nobody", x.share(0, 0, -1, 0), -5);
        Due.is("tide 12", x.share(0, 12, 0, 0), -5);
        Due.is("tide -1", x.share(0, -1, 0, 2), -5);
        Due.is("turned 2", x.share(0, 0, 0, 2), -7);
        Due.is("turned -1", x.share(0, 0, 0, -1), -7);
        thirdRound();
        lessWorth();
    }

    /** With turned, the third round goes as the first one. */
    private static void thirdRound() {
        HighWater x = Due.bay(2);
        int[] told = {32, 16, 8, 4, 2, 1};
        for (int i = 0; i < 6; i++) {
            x.island(0, told[i], 0, 0);
        }
        shares(x, 0, 0, 1, 32 + 4 + 2, 16 + 8 + 1);
        shares(x, 0, 1, 1, 16 + 8 + 1, 32 + 4 + 2);
        shares(x, 0, 0, 0, 32 + 8 + 2, 16 + 4 + 1);
    }

    /** What is WORTH 0 is taken too; who is where does not matter. */
    private static void lessWorth() {
        HighWater x = Due.bay(2);
        x.island(0, 0, 0, 0);
        x.island(0, 0, 0, 0);
        x.island(4, 7, 9, 9);
        x.go(0, 0, 2);
        shares(x, 0, 0, 0, 12, 0);
        shares(x, 0, 1, 0, 0, 12);
        Due.is("unfair", x.unfair(0, 0, 0), 12);
    }

    private static void unfair() {
        HighWater x = six(3);
        x.tide(1, 4);
        Due.is("90 80 60", x.unfair(1, 0, 0), 30);
        Due.is("80 70 80", x.unfair(1, 1, 1), 10);
        HighWater four = six(4);
        four.tide(1, 4);
        Due.is("50 30 80 70", four.unfair(1, 2, 0), 50);
        Due.is("60 50 60 60", four.unfair(1, 2, 1), 10);
        Due.is("one alone", six(1).unfair(0, 0, 1), 0);
        Due.is("no islands", Due.bay(4).unfair(0, 3, 1), 0);
        Due.is("nobody", x.unfair(0, 3, 0), -5);
        Due.is("nobody", x.unfair(0, -1, 0), -5);
        Due.is("nobody at all", new HighWater().unfair(0, 0, 0), -5);
        Due.is("tide 12", x.unfair(12, 0, 0), -5);
        Due.is("tide -1", x.unfair(-1, 0, 2), -5);
        Due.is("turned 2", x.unfair(0, 0, 2), -7);
        Due.is("turned -1", x.unfair(0, 0, -1), -7);
    }

    private static void dear(HighWater x, int... due) {
        for (int what = 0; what < 4; what++) {
            Due.is("dear " + what, x.dear(what), due[what]);
        }
    }

    private static void dear() {
        HighWater x = Due.bay(2);
        dear(x, 0, 0, 0, 0);
        x.island(0, 10, 0, 0);
        dear(x, 0, 10, 0, 10);
        x.island(2, 20, 4, 0);
        dear(x, 0, 10, 0, 10);
        x.tide(7, 4);
        x.tide(9, 0);
        dear(x, 7, 30, 7, 30);
        x.go(0, 7, 1);
        dear(x, 7, 30, 9, 30);
        x.go(1, 9, 0);
        dear(x, 7, 30, 9, 20);
        x.go(1, 7, 1);
        dear(x, 7, 30, 7, 30);
        for (int t = 0; t < 12; t++) {
            x.go(1, t, 0);
        }
        x.go(0, 7, 0);
        // At 7 both are on 0, so all is nobody's.
        dear(x, 7, 30, 7, 30);
        x.go(0, 7, -1);
        // Somewhere 20 is nobody's: first at 7.
        dear(x, 7, 30, 7, 20);
        Due.is("what 4", x.dear(4), HighWater.BAD);
        Due.is("what -1", x.dear(-1), HighWater.BAD);
        HighWater y = new HighWater();
        y.island(1, 5, 0, 9);
        dear(y, 11, 104, 11, 104);
    }

    private static void holds(HighWater x, int p, int i, int most, int first) {
        Due.is("holds " + p + " " + i, x.holds(p, i, 0), most);
        Due.is("from", x.holds(p, i, 1), first);
    }

    private static void holds() {
        HighWater x = Due.bay(2);
        x.island(0, 10, 0, 0);
        x.island(2, 10, 5, 0);
        holds(x, 0, 0, 0, -1);
        int[] places = {0, 0, -1, 0, 0, 1, 0, 1, 1, 1, -1, -1};
        for (int t = 0; t < 12; t++) {
            x.go(0, t, places[t]);
        }
        holds(x, 0, 0, 2, 0);
        holds(x, 0, 1, 3, 7);
        x.go(1, 1, 0);
        holds(x, 0, 0, 2, 3);
        holds(x, 1, 0, 0, -1);
        x.tide(8, 6);
        holds(x, 0, 1, 1, 5);
        x.go(0, 11, 0);
        x.go(0, 10, 0);
        x.go(0, 9, 0);
        holds(x, 0, 0, 3, 9);
        for (int t = 0; t < 12; t++) {
            x.go(0, t, 0);
            x.go(1, t, -1);
        }
        holds(x, 0, 0, 12, 0);
        Due.is("what 2", x.holds(0, 0, 2), -7);
        Due.is("what -1", x.holds(0, 0, -1), -7);
        Due.is("nobody", x.holds(2, 0, 0), -5);
        Due.is("nobody", x.holds(-1, 0, 2), -5);
        Due.is("no island", x.holds(0, 2, 0), -5);
        Due.is("no island", x.holds(0, -1, 2), -5);
    }
}
