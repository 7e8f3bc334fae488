/** Promises 12 to 15. */
public final class IslandsTest {
    public static void main(String[] args) {
        island();
        told();
        kinds();
        worthNames();
        thenRefuses();
        joined();
        Due.end();
    }

    private static void island() {
        HighWater x = new HighWater();
        for (int bad : new int[] {-1, Integer.MIN_VALUE, Integer.MAX_VALUE}) {
            Due.is("kind", x.island(bad, 0, 0, 0), -2);
            Due.is("told", x.island(0, bad, 0, 0), -2);
            Due.is("high", x.island(0, 0, bad, 0), -2);
            Due.is("more", x.island(0, 0, 0, bad), -2);
        }
        Due.is("kind 6", x.island(6, 0, 0, 0), -2);
        Due.is("told 100", x.island(0, 100, 0, 0), -2);
        Due.is("high 10", x.island(0, 0, 10, 0), -2);
        Due.is("more 10", x.island(0, 0, 0, 10), -2);
        Due.is("none came", x.count(0), 0);
        for (int i = 0; i < 6; i++) {
            Due.is("island", x.island(i, 99 - i, 9 - i, 4 + i), i);
        }
        Due.is("a seventh", x.island(0, 0, 0, 0), HighWater.FULL);
        Due.is("BAD ahead of FULL", x.island(0, 0, 0, 10), -2);
        Due.is("count(0)", x.count(0), 6);
    }

    private static void told() {
        HighWater x = new HighWater();
        for (int i = 0; i < 6; i++) {
            x.island(5 - i, 90 + i, i, 9 - i);
        }
        for (int i = 0; i < 6; i++) {
            Due.is("kind", x.told(i, 0), 5 - i);
            Due.is("told", x.told(i, 1), 90 + i);
            Due.is("rises", x.told(i, 2), i);
            Due.is("more", x.told(i, 3), 9 - i);
        }
        Due.is("what 4", x.told(0, 4), -7);
        Due.is("what -1", x.told(0, -1), -7);
        Due.is("island 6", x.told(6, 0), -5);
        Due.is("island -1", x.told(-1, 0), -5);
        Due.is("-5 ahead of -7", x.told(6, 4), -5);
    }

    private static void kinds() {
        HighWater x = new HighWater();
        x.island(0, 20, 3, 4);
        x.island(1, 20, 3, 4);
        x.island(2, 20, 3, 4);
        x.island(3, 20, 3, 4);
        x.island(4, 20, 3, 4);
        x.island(5, 20, 3, 4);
        for (int t = 0; t < 12; t++) {
            for (int high = 0; high < 10; high++) {
                x.tide(t, high);
                worth(x, t, 20, 20 + 4 * t, 20, 2 * (20 + 4 * t) + 1, t < 4 ? 25 : 0, 20);
                stands(x, t, high <= 3);
                Due.is("4 with", x.then(4, t, 2), high < 3 ? 48 : 16);
                Due.is("5 with", x.then(5, t, 2), high < 3 ? 48 : 32);
                for (int i = 0; i < 4; i++) {
                    Due.is("alone", x.then(i, t, 2), 1 << i);
                }
            }
        }
    }

    private static void worth(HighWater x, int t, int... due) {
        for (int i = 0; i < 6; i++) {
            Due.is("worth of " + i + " at " + t, x.then(i, t, 0), due[i]);
        }
    }

    private static void stands(HighWater x, int t, boolean low) {
        for (int i = 0; i < 6; i++) {
            Due.is("stands " + i, x.then(i, t, 1), i == 2 || i == 4 ? (low ? 1 : 0) : 1);
        }
    }

    /** What THE LAW's worth is told: told, height, more, tide, number; far is 0. */
    private static void worthNames() {
        HighWater x = new HighWater();
        x.island(0, 11, 2, 3);
        x.island(0, 12, 2, 7);
        x.tide(9, 8);
        String[] names = {"told", "height", "more", "far", "tide", "number"};
        int[] due = {12, 8, 7, 0, 9, 1};
        for (int k = 1; k < 6; k++) {
            Due.law(x, "worth " + names[k] + "; costs 0; storm 0;");
            Due.is(names[k], x.then(1, 9, 0), due[k]);
        }
        x.force(0);
        Due.is("told", x.then(1, 9, 0), 12);
        HighWater y = new HighWater();
        y.island(0, 60, 0, 0);
        y.island(3, 60, 0, 9);
        y.island(4, 60, 9, 9);
        Due.law(y, "worth told * 2; costs 0; storm 0;");
        Due.is("the text's bound", y.then(0, 0, 0), 99);
        Due.is("bound ahead of the kind", y.then(1, 11, 0), 2 * (99 + 99) + 1);
        Due.is("bound ahead of the kind", y.then(2, 0, 0), 104);
        Due.law(y, "worth 0 - told; costs 0; storm 0;");
        Due.is("not below 0", y.then(0, 0, 0), 0);
        Due.is("not below 0", y.then(1, 1, 0), 19);
    }

    private static void thenRefuses() {
        HighWater x = new HighWater();
        x.island(0, 11, 2, 3);
        Due.is("island 1", x.then(1, 0, 0), -5);
        Due.is("island -1", x.then(-1, 0, 0), -5);
        Due.is("tide 12", x.then(0, 12, 0), -5);
        Due.is("tide -1", x.then(0, -1, 0), -5);
        Due.is("what 3", x.then(0, 0, 3), -7);
        Due.is("what -1", x.then(0, 0, -1), -7);
        Due.is("-5 ahead of -7", x.then(0, 12, 3), -5);
    }

    private static void joined() {
        HighWater x = new HighWater();
        x.island(5, 10, 6, 1);
        x.island(5, 10, 4, 8);
        Due.is("8 modulo 6 is 2, not there yet", x.joined(0, 1), 4095);
        x.tide(0, 3);
        Due.is("no such island is no joint", x.then(1, 0, 2), 3);
        x.island(2, 10, 0, 0);
        x.island(0, 10, 0, 0);
        x.tide(1, 4);
        x.tide(2, 6);
        x.tide(3, 9);
        x.tide(4, 0);
        Due.is("0 and 1: below 6", x.joined(0, 1), 4095 - 4 - 8);
        Due.is("1 and 0", x.joined(1, 0), 4095 - 4 - 8);
        Due.is("1 and 2: below 4", x.joined(1, 2), 1 + 16);
        Due.is("0 and 2 by 1", x.joined(0, 2), 1 + 16);
        Due.is("2 and 0 by 1", x.joined(2, 0), 1 + 16);
        Due.is("0 and 3", x.joined(0, 3), 0);
        Due.is("3 and 3", x.joined(3, 3), 4095);
        Due.is("all by 1, under water too", x.then(0, 0, 2), 7);
        Due.is("all by 1", x.then(2, 0, 2), 7);
        Due.is("two", x.then(1, 1, 2), 3);
        Due.is("one", x.then(2, 1, 2), 4);
        Due.is("no such", x.joined(4, 0), -5);
        Due.is("no such", x.joined(0, 4), -5);
        Due.is("no such", x.joined(-1, 0), -5);
        Due.is("no such", x.joined(0, -1), -5);
        HighWater y = new HighWater();
        y.island(5, 1, 9, 5);
        y.island(5, 1, 9, 5);
        Due.is("two that join what is not there", y.joined(0, 1), 0);
        for (int i = 2; i < 6; i++) {
            y.island(0, 1, 0, 0);
        }
        Due.is("now it is there", y.joined(0, 1), 4095);
        HighWater z = new HighWater();
        for (int i = 0; i < 6; i++) {
            z.island(5, 1, 9, (i + 1) % 6);
        }
        Due.is("a ring", z.then(3, 0, 2), 63);
        HighWater own = new HighWater();
        own.island(5, 1, 9, 6);
        Due.is("one that joins itself", own.then(0, 0, 2), 1);
    }
}
