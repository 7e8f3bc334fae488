/** The edges that "Terms 1" names of TIDES, ISLANDS, PEOPLE and KINDS: each sentence has a test of its own. */
public final class EdgesOfTermsTest {
    public static void main(String[] args) {
        tides();
        highs();
        sixIslands();
        islandNumbers();
        fourPeople();
        shoreAtFirst();
        kindIsland();
        kindHay();
        kindLow();
        lowAtTheEnds();
        kindWell();
        kindRock();
        rockStands();
        kindBarred();
        moreModulo();
        kindsAbove();
        oneByMany();
        standingOrNot();
        oneWithItself();
        joinsWhatHasNotCome();
        worthBound();
        Due.end();
    }

    private static void then(HighWater x, int i, int t, int what, int due) {
        Due.is("then(" + i + ", " + t + ", " + what + ")", x.then(i, t, what), due);
    }

    private static HighWater bayOf(int kind, int told, int rises, int more) {
        HighWater x = new HighWater();
        Due.is("island", x.island(kind, told, rises, more), 0);
        return x;
    }

    private static void tides() {
        Due.sentence("TIDES 0 .. 11");
        HighWater x = new HighWater();
        Due.is("height(0)", x.height(0), 5);
        Due.is("height(11)", x.height(11), 5);
        Due.is("height(-1)", x.height(-1), -5);
        Due.is("height(12)", x.height(12), -5);
        Due.is("tide(0, 1)", x.tide(0, 1), 5);
        Due.is("tide(11, 2)", x.tide(11, 2), 5);
        Due.is("tide(-1, 3)", x.tide(-1, 3), -5);
        Due.is("tide(12, 4)", x.tide(12, 4), -5);
        Due.is("height(0)", x.height(0), 1);
        Due.is("height(11)", x.height(11), 2);
    }

    private static void highs() {
        Due.sentence("each so HIGH (0 .. 9; 5 at first)");
        HighWater x = new HighWater();
        for (int t = 0; t < 12; t++) {
            Due.is("height(" + t + ") at first", x.height(t), 5);
        }
        Due.is("tide(4, 0)", x.tide(4, 0), 5);
        Due.is("height(4)", x.height(4), 0);
        Due.is("tide(4, 9)", x.tide(4, 9), 0);
        Due.is("height(4)", x.height(4), 9);
        Due.is("tide(4, -1)", x.tide(4, -1), -7);
        Due.is("tide(4, 10)", x.tide(4, 10), -7);
        Due.is("height(4)", x.height(4), 9);
    }

    private static void sixIslands() {
        Due.sentence("ISLANDS are numbered from 0 on, 6 at most");
        HighWater x = new HighWater();
        Due.is("none yet", x.told(0, 0), -5);
        for (int i = 0; i < 6; i++) {
            Due.is("island", x.island(0, 10 + i, 0, 0), i);
            Due.is("told", x.told(i, 1), 10 + i);
            Due.is("none beyond", x.told(i + 1, 1), -5);
        }
        Due.is("a seventh", x.island(0, 16, 0, 0), HighWater.FULL);
        Due.is("count(0)", x.count(0), 6);
        for (int i = 0; i < 6; i++) {
            Due.is("told", x.told(i, 1), 10 + i);
        }
    }

    private static void islandNumbers() {
        Due.sentence("of a KIND, with TOLD (0 .. 99), RISES (0 .. 9), MORE (0 .. 9)");
        HighWater x = bayOf(0, 0, 0, 0);
        Due.is("the most", x.island(5, 99, 9, 9), 1);
        int[] due = {0, 0, 0, 0, 5, 99, 9, 9};
        for (int k = 0; k < 8; k++) {
            Due.is("told", x.told(k / 4, k % 4), due[k]);
        }
        Due.is("KIND 6", x.island(6, 0, 0, 0), -2);
        Due.is("KIND -1", x.island(-1, 0, 0, 0), -2);
        Due.is("TOLD 100", x.island(0, 100, 0, 0), -2);
        Due.is("TOLD -1", x.island(0, -1, 0, 0), -2);
        Due.is("RISES 10", x.island(0, 0, 10, 0), -2);
        Due.is("RISES -1", x.island(0, 0, -1, 0), -2);
        Due.is("MORE 10", x.island(0, 0, 0, 10), -2);
        Due.is("MORE -1", x.island(0, 0, 0, -1), -2);
        Due.is("count(0)", x.count(0), 2);
    }

    private static void fourPeople() {
        Due.sentence("PEOPLE are numbered from 0 on, 4 at most");
        HighWater x = new HighWater();
        Due.is("nobody yet", x.at(0, 0), -5);
        for (int p = 0; p < 4; p++) {
            Due.is("come", x.come(), p);
            Due.is("at", x.at(p, 0), -1);
            Due.is("nobody beyond", x.at(p + 1, 0), -5);
        }
        Due.is("a fifth", x.come(), HighWater.FULL);
        Due.is("count(1)", x.count(1), 4);
        Due.is("nobody beyond", x.at(4, 0), -5);
    }

    private static void shoreAtFirst() {
        Due.sentence("each is at each TIDE on an ISLAND, or on the SHORE (-1; at first)");
        HighWater x = bayOf(0, 9, 0, 0);
        for (int p = 0; p < 4; p++) {
            x.come();
            for (int t = 0; t < 12; t++) {
                Due.is("at", x.at(p, t), -1);
            }
        }
        Due.is("go(3, 11, 0)", x.go(3, 11, 0), -1);
        Due.is("at(3, 11)", x.at(3, 11), 0);
        Due.is("at(3, 10)", x.at(3, 10), -1);
        Due.is("at(2, 11)", x.at(2, 11), -1);
        Due.is("go(3, 11, -1)", x.go(3, 11, -1), 0);
        Due.is("at(3, 11)", x.at(3, 11), -1);
    }

    private static void kindIsland() {
        Due.sentence("0 ISLAND: yes; that; none");
        HighWater x = bayOf(0, 33, 0, 1);
        x.island(0, 33, 9, 0);
        for (int high = 0; high < 10; high++) {
            x.tide(11, high);
            for (int i = 0; i < 2; i++) {
                then(x, i, 11, 0, 33);
                then(x, i, 11, 1, 1);
                then(x, i, 11, 2, 1 << i);
            }
        }
    }

    private static void kindHay() {
        Due.sentence("1 HAY: MORE times the TIDE's number more");
        HighWater x = bayOf(1, 99, 0, 9);
        x.island(1, 0, 0, 0);
        x.island(1, 7, 0, 1);
        then(x, 0, 0, 0, 99);
        then(x, 0, 1, 0, 99 + 9);
        then(x, 0, 11, 0, 99 + 99);
        then(x, 1, 0, 0, 0);
        then(x, 1, 11, 0, 0);
        then(x, 2, 0, 0, 7);
        then(x, 2, 11, 0, 18);
    }

    private static void kindLow() {
        Due.sentence("2 LOW: STANDS, if the TIDE is no HIGHER than it RISES");
        for (int rises = 0; rises < 10; rises++) {
            HighWater x = bayOf(2, 40, rises, 3);
            for (int high = 0; high < 10; high++) {
                x.tide(3, high);
                then(x, 0, 3, 1, high <= rises ? 1 : 0);
                then(x, 0, 3, 0, 40);
            }
        }
    }

    private static void lowAtTheEnds() {
        Due.sentence("2 LOW: STANDS, if the TIDE is no HIGHER than it RISES (as HIGH as it RISES; 0 and 9)");
        HighWater x = bayOf(2, 1, 0, 0);
        x.island(2, 1, 9, 0);
        x.island(2, 1, 5, 0);
        x.tide(0, 0);
        then(x, 0, 0, 1, 1);
        x.tide(0, 1);
        then(x, 0, 0, 1, 0);
        x.tide(0, 9);
        then(x, 1, 0, 1, 1);
        then(x, 2, 0, 1, 0);
        then(x, 2, 1, 1, 1);
        x.tide(1, 6);
        then(x, 2, 1, 1, 0);
    }

    private static void kindWell() {
        Due.sentence("3 WELL: twice a HAY's, and 1");
        HighWater x = bayOf(3, 0, 0, 0);
        x.island(3, 99, 0, 9);
        x.island(3, 4, 0, 1);
        then(x, 0, 0, 0, 1);
        then(x, 0, 11, 0, 1);
        then(x, 1, 0, 0, 199);
        then(x, 1, 11, 0, 2 * (99 + 99) + 1);
        then(x, 2, 1, 0, 11);
    }

    private static void kindRock() {
        Due.sentence("4 ROCK: WORTH a LOW's, and 5, at TIDES below MORE, else 0");
        HighWater x = bayOf(4, 99, 9, 9);
        x.island(4, 0, 9, 1);
        x.island(4, 50, 9, 0);
        then(x, 0, 0, 0, 104);
        then(x, 0, 8, 0, 104);
        then(x, 0, 9, 0, 0);
        then(x, 0, 11, 0, 0);
        then(x, 1, 0, 0, 5);
        then(x, 1, 1, 0, 0);
        then(x, 2, 0, 0, 0);
        // By the TIDE's number, not by how HIGH it is.
        x.tide(8, 9);
        x.tide(9, 0);
        then(x, 0, 8, 0, 104);
        then(x, 0, 9, 0, 0);
    }

    private static void rockStands() {
        Due.sentence("4 ROCK (a LOW)");
        HighWater x = bayOf(4, 50, 5, 3);
        then(x, 0, 0, 1, 1);
        then(x, 0, 3, 1, 1);
        then(x, 0, 11, 1, 1);
        x.tide(0, 6);
        then(x, 0, 0, 1, 0);
        // What it is WORTH does not ask whether it STANDS.
        then(x, 0, 0, 0, 55);
    }

    private static void kindBarred() {
        Due.sentence("5 BARRED: JOINS ISLAND (MORE modulo 6), if the TIDE is less HIGH than it RISES");
        for (int rises = 0; rises < 10; rises++) {
            HighWater x = bayOf(5, 40, rises, 1);
            x.island(0, 40, 9, 0);
            for (int high = 0; high < 10; high++) {
                x.tide(3, high);
                then(x, 0, 3, 2, high < rises ? 3 : 1);
                then(x, 1, 3, 2, high < rises ? 3 : 2);
                then(x, 0, 3, 1, 1);
                then(x, 0, 3, 0, 40);
            }
        }
    }

    private static void moreModulo() {
        Due.sentence("ISLAND (MORE modulo 6)");
        for (int more = 0; more < 10; more++) {
            HighWater x = new HighWater();
            for (int i = 0; i < 5; i++) {
                x.island(0, 1, 9, 9);
            }
            x.island(5, 1, 9, more);
            int other = more < 6 ? more : more - 6;
            for (int i = 0; i < 6; i++) {
                then(x, i, 0, 2, i == 5 || i == other ? 1 << 5 | 1 << other : 1 << i);
            }
        }
    }

    private static void kindsAbove() {
        Due.sentence("Whatever isn't told is as of the KIND above");
        HighWater x = bayOf(1, 10, 0, 2);
        x.island(2, 10, 4, 2);
        x.island(3, 10, 0, 2);
        x.island(4, 10, 4, 2);
        x.island(5, 10, 0, 2);
        x.tide(1, 9);
        // HAY and WELL STAND, BARRED is WORTH what the text says, LOW and ROCK join none, nor do HAY and WELL.
        then(x, 0, 1, 1, 1);
        then(x, 2, 1, 1, 1);
        then(x, 4, 1, 1, 1);
        then(x, 1, 1, 1, 0);
        then(x, 3, 1, 1, 0);
        then(x, 1, 1, 0, 10);
        then(x, 4, 1, 0, 10);
        x.tide(1, 0);
        for (int i = 0; i < 5; i++) {
            then(x, i, 1, 1, 1);
            then(x, i, 1, 2, 1 << i);
        }
    }

    private static void oneByMany() {
        Due.sentence("so are all that are ONE with any of them");
        // 3 JOINS 1, 5 JOINS 3, 4 JOINS 1: 1 3 4 5; 0 and 2 apart.
        HighWater x = bayOf(0, 1, 0, 0);
        x.island(0, 1, 0, 0);
        x.island(0, 1, 0, 0);
        x.island(5, 1, 9, 1);
        x.island(5, 1, 8, 7);
        x.island(5, 1, 7, 9);
        int[] due = {1, 58, 4, 58, 58, 58};
        for (int i = 0; i < 6; i++) {
            then(x, i, 6, 2, due[i]);
        }
        x.tide(6, 7);
        int[] dueAt7 = {1, 26, 4, 26, 26, 32};
        for (int i = 0; i < 6; i++) {
            then(x, i, 6, 2, dueAt7[i]);
        }
        x.tide(6, 8);
        int[] dueAt8 = {1, 10, 4, 10, 16, 32};
        for (int i = 0; i < 6; i++) {
            then(x, i, 6, 2, dueAt8[i]);
        }
        x.tide(6, 9);
        for (int i = 0; i < 6; i++) {
            then(x, i, 6, 2, 1 << i);
        }
        allOne();
    }

    /** Each JOINS the one behind it, the other way round too: all six are ONE. */
    private static void allOne() {
        HighWater x = new HighWater();
        HighWater y = new HighWater();
        for (int i = 0; i < 6; i++) {
            x.island(5, 1, 6, i < 5 ? i + 1 : 5);
            y.island(5, 1, 6, i > 0 ? i - 1 : 0);
        }
        for (int i = 0; i < 6; i++) {
            then(x, i, 0, 2, 63);
            then(y, i, 0, 2, 63);
        }
    }

    private static void standingOrNot() {
        Due.sentence("ISLANDS are ONE (STANDING or not)");
        HighWater x = bayOf(2, 1, 0, 0);
        x.island(5, 1, 9, 0);
        x.island(5, 1, 9, 0);
        then(x, 0, 0, 1, 0);
        then(x, 0, 0, 2, 7);
        then(x, 1, 0, 2, 7);
        then(x, 2, 0, 2, 7);
        Due.is("joined(1, 2)", x.joined(1, 2), 4095);
    }

    private static void oneWithItself() {
        Due.sentence("an ISLAND is ONE with itself");
        HighWater x = bayOf(2, 1, 0, 0);
        x.island(5, 1, 9, 1);
        then(x, 0, 0, 2, 1);
        then(x, 1, 0, 2, 2);
        Due.is("joined(0, 0)", x.joined(0, 0), 4095);
        Due.is("joined(1, 1)", x.joined(1, 1), 4095);
        Due.is("joined(0, 1)", x.joined(0, 1), 0);
    }

    private static void joinsWhatHasNotCome() {
        Due.sentence("JOINS ISLAND (MORE modulo 6), which has not come");
        HighWater x = bayOf(5, 1, 9, 2);
        x.island(5, 1, 9, 2);
        then(x, 0, 0, 2, 1);
        then(x, 1, 0, 2, 2);
        Due.is("joined(0, 1)", x.joined(0, 1), 0);
        x.image();
        x.island(0, 1, 0, 0);
        then(x, 0, 0, 2, 7);
        Due.is("joined(0, 1)", x.joined(0, 1), 4095);
        x.back();
        then(x, 0, 0, 2, 1);
        Due.is("joined(0, 1) behind back", x.joined(0, 1), 0);
    }

    private static void worthBound() {
        Due.sentence("WORTH 0 .. 9999, else the bound");
        HighWater x = bayOf(0, 0, 0, 0);
        x.island(3, 99, 0, 9);
        Due.law(x, "worth 9999*9999;costs 0;storm 0;");
        then(x, 0, 0, 0, 99);
        then(x, 1, 11, 0, 397);
        Due.law(x, "worth -9999;costs 0;storm 0;");
        then(x, 0, 0, 0, 0);
        then(x, 1, 0, 0, 1);
        then(x, 1, 11, 0, 199);
    }
}
