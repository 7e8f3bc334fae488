/** Promises 16 to 23. */
public final class WhoseTest {
    public static void main(String[] args) {
        whose();
        gain();
        costs();
        year();
        best();
        wise();
        rest();
        ways();
        Due.end();
    }

    private static void owners(HighWater x, int t, int... due) {
        for (int i = 0; i < due.length; i++) {
            Due.is("whose " + i + " at " + t, x.whose(i, t), due[i]);
        }
    }

    private static void whose() {
        HighWater x = Due.four(3);
        owners(x, 0, -1, -1, -1, -1);
        x.go(0, 0, 0);
        owners(x, 0, 0, -1, -1, 0);
        x.go(1, 0, 3);
        owners(x, 0, -1, -1, -1, -1);
        x.tide(0, 6);
        owners(x, 0, 0, -1, -1, 1);
        x.go(2, 0, 2);
        owners(x, 0, 0, -1, -1, 1);
        x.tide(0, 4);
        owners(x, 0, -1, -1, 2, -1);
        x.go(0, 0, -1);
        owners(x, 0, 1, -1, 2, 1);
        owners(x, 1, -1, -1, -1, -1);
        Due.is("island 4", x.whose(4, 0), -5);
        Due.is("island -1", x.whose(-1, 0), -5);
        Due.is("tide 12", x.whose(0, 12), -5);
        Due.is("tide -1", x.whose(0, -1), -5);
        // Under water, but one with what stands: one's by that; by being there alone: nobody's.
        HighWater y = Due.bay(2);
        y.island(2, 40, 4, 0);
        y.island(5, 10, 9, 0);
        y.go(1, 0, 0);
        owners(y, 0, -1, -1);
        y.go(0, 0, 1);
        owners(y, 0, 0, 0);
        y.tide(0, 4);
        owners(y, 0, -1, -1);
    }

    private static void gain() {
        HighWater x = Due.four(2);
        Due.is("on the shore", x.gain(0, 0), 0);
        x.go(0, 0, 0);
        Due.is("0 and 3", x.gain(0, 0), 30);
        Due.is("the other", x.gain(1, 0), 0);
        x.go(1, 0, 1);
        Due.is("1", x.gain(1, 0), 30);
        x.go(1, 0, 2);
        Due.is("under water", x.gain(1, 0), 0);
        Due.is("0 and 3 still", x.gain(0, 0), 30);
        x.go(1, 0, 3);
        Due.is("both on one", x.gain(0, 0), 0);
        Due.is("both on one", x.gain(1, 0), 0);
        x.tide(0, 9);
        Due.is("0", x.gain(0, 0), 20);
        Due.is("3", x.gain(1, 0), 10);
        HighWater y = Due.bay(1);
        y.island(2, 40, 4, 0);
        y.island(5, 10, 9, 0);
        y.go(0, 0, 1);
        Due.is("what is under water is no gain", y.gain(0, 0), 10);
        y.tide(0, 4);
        Due.is("what stands is", y.gain(0, 0), 50);
        Due.is("nobody", y.gain(1, 0), -5);
        Due.is("nobody", y.gain(-1, 0), -5);
        Due.is("tide 12", y.gain(0, 12), -5);
        Due.is("tide -1", y.gain(0, -1), -5);
    }

    private static void costs() {
        HighWater x = Due.four(2);
        int[] places = {2, 0, 0, -1, 1, 3, -1, -1, 0, 2, 2, 1};
        int[] due = {3, 2, 0, 0, 2, 2, 0, 0, 1, 2, 0, 1};
        for (int t = 0; t < 12; t++) {
            x.go(1, t, places[t]);
        }
        for (int t = 0; t < 12; t++) {
            Due.is("costs at " + t, x.costs(1, t), due[t]);
            Due.is("costs of the shore", x.costs(0, t), 0);
        }
        Due.is("nobody", x.costs(2, 0), -5);
        Due.is("nobody", x.costs(-1, 0), -5);
        Due.is("tide 12", x.costs(0, 12), -5);
        Due.is("tide -1", x.costs(0, -1), -5);
        // What costs is told: the TIDE gone at, the ISLAND gone to; told, more 0.
        HighWater y = Due.four(1);
        y.island(3, 77, 8, 9);
        y.go(0, 6, 1);
        y.go(0, 7, 4);
        y.tide(6, 2);
        y.tide(7, 8);
        String[] names = {"told", "height", "more", "far", "tide", "number"};
        int[] dueAt7 = {0, 8, 0, 3, 7, 4};
        for (int k = 1; k < 6; k++) {
            Due.law(y, "worth 0; costs " + names[k] + "; storm 0;");
            Due.is(names[k], y.costs(0, 7), dueAt7[k]);
        }
        HighWater z = Due.four(1);
        z.island(3, 77, 8, 9);
        z.go(0, 0, 4);
        Due.law(z, "worth 0; costs told + 50; storm 0;");
        Due.is("told", z.costs(0, 0), 50);
        z.go(0, 1, 4);
        Due.is("staying costs nothing", z.costs(0, 1), 0);
        Due.is("going to the shore costs nothing", z.costs(0, 2), 0);
        Due.law(z, "worth 0; costs far * 30; storm 0;");
        Due.is("costs' bound", z.costs(0, 0), 99);
    }

    private static void year() {
        HighWater x = Due.four(2);
        int[] places = {0, 1, 1, -1, 2, 3, 3, -1, -1, -1, -1, -1};
        for (int t = 0; t < 12; t++) {
            x.go(0, t, places[t]);
        }
        // 30 30 30 0 0(under water) 30 30
        Due.is("gain", x.year(0, 0), 150);
        // 1 1 0 0 3 1 0
        Due.is("costs", x.year(0, 1), 6);
        Due.is("how many", x.year(0, 2), 5);
        x.go(1, 6, 0);
        Due.is("gain", x.year(0, 0), 120);
        Due.is("how many", x.year(0, 2), 4);
        Due.is("the other's", x.year(1, 0), 0);
        Due.is("the other's", x.year(1, 1), 1);
        Due.is("what 3", x.year(0, 3), -7);
        Due.is("what -1", x.year(0, -1), -7);
        Due.is("nobody", x.year(2, 0), -5);
        Due.is("nobody", x.year(-1, 3), -5);
        x.go(1, 11, 1);
        Due.is("the last tide", x.year(1, 0), 30);
        HighWater y = Due.bay(1);
        y.island(0, 1, 0, 0);
        y.go(0, 0, 0);
        Due.is("1 is above 0", y.year(0, 2), 1);
    }

    private static void best(HighWater x, int p, int t, int place, int left) {
        Due.is("best place of " + p + " at " + t, x.best(p, t, 0), place);
        Due.is("best left of " + p + " at " + t, x.best(p, t, 1), left);
    }

    private static void best() {
        HighWater x = Due.four(2);
        // From the shore: 30-1, 30-2, 0-3, 30-4.
        best(x, 0, 0, 0, 29);
        x.go(1, 0, 3);
        best(x, 0, 0, 1, 28);
        x.go(0, 0, 3);
        best(x, 0, 1, 3, 30);
        x.go(0, 0, 2);
        // From 2: 30-2, 30-1, 0, 30-1.
        best(x, 0, 1, 1, 29);
        Due.is("it changes nothing", x.at(0, 1), -1);
        HighWater y = Due.bay(1);
        best(y, 0, 0, -1, 0);
        y.island(0, 1, 0, 0);
        best(y, 0, 0, -1, 0);
        y.island(0, 3, 0, 0);
        best(y, 0, 0, 1, 1);
        y.go(0, 0, 0);
        best(y, 0, 1, 1, 2);
        y.island(0, 4, 0, 0);
        best(y, 0, 1, 1, 2);
        y.go(0, 0, 2);
        best(y, 0, 1, 2, 4);
        Due.is("what 2", y.best(0, 0, 2), -7);
        Due.is("what -1", y.best(0, 0, -1), -7);
        Due.is("nobody", y.best(1, 0, 0), -5);
        Due.is("nobody", y.best(-1, 0, 2), -5);
        Due.is("tide 12", y.best(0, 12, 0), -5);
        Due.is("tide -1", y.best(0, -1, 2), -5);
    }

    private static void wise() {
        HighWater x = Due.four(2);
        // 29 at TIDE 0 on 0; then stays, 30 each.
        Due.is("wise(0)", x.wise(0), 29 + 11 * 30);
        for (int t = 0; t < 12; t++) {
            Due.is("at", x.at(0, t), 0);
            Due.is("the other", x.at(1, t), -1);
        }
        // 28 on 1, which then is 30 each; but the first is ahead of 0 at TIDE 5.
        x.go(0, 5, 1);
        // At TIDE 5: 0 and 3 are left: 30-1, 30-2 (from 1): 0; then 30 on 1 for 30-1, as 0 is the first one's again.
        Due.is("wise(1)", x.wise(1), 28 + 4 * 30 + 29 + 29 + 5 * 30);
        int[] due = {1, 1, 1, 1, 1, 0, 1, 1, 1, 1, 1, 1};
        for (int t = 0; t < 12; t++) {
            Due.is("at " + t, x.at(1, t), due[t]);
        }
        Due.is("nobody", x.wise(2), -5);
        Due.is("nobody", x.wise(-1), -5);
        HighWater y = Due.bay(1);
        y.island(0, 1, 0, 0);
        y.go(0, 3, 0);
        Due.is("not worth going", y.wise(0), 0);
        Due.is("the shore then", y.at(0, 3), -1);
    }

    private static void rest() {
        HighWater x = Due.four(2);
        Due.is("all on the shore", x.rest(0), 0);
        x.go(0, 0, 0);
        Due.is("the other could have 1", x.rest(0), 0);
        x.go(1, 0, 1);
        Due.is("at rest", x.rest(0), 1);
        x.go(0, 0, 3);
        Due.is("0 is nearer", x.rest(0), 0);
        x.go(1, 0, -1);
        x.go(0, 0, 0);
        Due.is("what is left", x.rest(0), 0);
        Due.is("tide 12", x.rest(12), -5);
        Due.is("tide -1", x.rest(-1), -5);
        HighWater y = Due.bay(1);
        y.island(0, 1, 0, 0);
        Due.is("as much elsewhere is no more", y.rest(0), 1);
        y.go(0, 0, 0);
        Due.is("as much on the shore is no more", y.rest(0), 1);
        y.island(2, 9, 0, 0);
        y.go(0, 0, 1);
        Due.is("the shore is more than what it costs", y.rest(0), 0);
        Due.is("nobody is at rest", new HighWater().rest(0), 1);
    }

    private static void ways(HighWater x, int t, int howMany, int first) {
        Due.is("ways at " + t, x.ways(t, 0), howMany);
        Due.is("first at " + t, x.ways(t, 1), first);
    }

    private static void ways() {
        HighWater x = Due.four(2);
        // One of them on 0, the other one on 1.
        ways(x, 0, 2, 12);
        // From 3 the first one stays there; or the first one is on 1, the other one on 0.
        x.go(0, 0, 3);
        ways(x, 1, 2, 21);
        Due.is("it changes nothing", x.at(0, 1), -1);
        // Where they are at the TIDE itself is all the same.
        x.go(0, 1, 2);
        x.go(1, 1, 3);
        ways(x, 1, 2, 21);
        x.go(1, 1, 0);
        ways(x, 1, 2, 21);
        // Alone: the shore and the island are alike.
        HighWater y = Due.bay(1);
        y.island(0, 1, 0, 0);
        ways(y, 0, 2, 0);
        // With two: 0 and 0 is as good as one of them on it.
        y.come();
        ways(y, 0, 3, 0);
        HighWater z = new HighWater();
        ways(z, 0, 1, 0);
        // One is on it; the other one has nothing by going there, but costs.
        HighWater one = Due.bay(2);
        one.island(0, 9, 0, 0);
        ways(one, 0, 2, 1);
        Due.is("what 2", z.ways(0, 2), -7);
        Due.is("what -1", z.ways(0, -1), -7);
        Due.is("tide 12", z.ways(12, 0), -5);
        Due.is("tide -1", z.ways(-1, 2), -5);
        waysOfTwoThatAreOne();
        manyWays();
    }

    private static void waysOfTwoThatAreOne() {
        HighWater x = Due.bay(2);
        x.island(5, 20, 9, 1);
        x.island(0, 30, 0, 0);
        // One is on 0 (50 for 1), the other one on the shore: 01, 10.
        ways(x, 0, 2, 1);
        x.go(0, 0, 0);
        x.go(1, 0, 1);
        // Where each was costs nothing: 02 and 10 are at rest, and 12, by which both have 0 whatever they do.
        ways(x, 1, 3, 2);
    }

    private static void manyWays() {
        // No island is worth anything and none costs: all ways are at rest.
        HighWater x = Due.bay(4);
        for (int i = 0; i < 6; i++) {
            x.island(0, 0, 0, 0);
        }
        Due.law(x, "worth 0; costs 0; storm 0;");
        ways(x, 0, 7 * 7 * 7 * 7, 0);
        // Each has to be somewhere else, if all are worth much.
        Due.law(x, "worth 50; costs 0; storm 0;");
        ways(x, 0, 6 * 5 * 4 * 3, 1234);
    }
}
