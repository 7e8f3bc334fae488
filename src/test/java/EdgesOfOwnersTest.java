/** The edges that "Terms 2" and promises 16 to 26 name: each sentence has a test of its own. */
public final class EdgesOfOwnersTest {
    private static final int MIN = Integer.MIN_VALUE, MAX = Integer.MAX_VALUE;

    public static void main(String[] args) {
        there();
        nobodyElse();
        oneWith();
        gainStanding();
        gainOfNone();
        costAhead();
        costOfNothing();
        leftOnTheShore();
        leftBelowNothing();
        noMoreElsewhere();
        theShoreToo();
        digits();
        whoseUnderWater();
        whoseEnds();
        gainEnds();
        costsEnds();
        yearOfAll();
        yearAboveNothing();
        bestOfLikeOnes();
        bestOfNone();
        wiseByThen();
        wiseEnds();
        wiseRefuses();
        rest();
        waysOfAll();
        waysOfNobody();
        familyOfNobody();
        familyDigits();
        familyOfLikeOnes();
        familyPeople();
        spoilOfLikeOnes();
        spoilOfNobody();
        ransom();
        ransomAlike();
        Due.end();
    }

    private static void owners(HighWater x, int t, int... due) {
        for (int i = 0; i < due.length; i++) {
            Due.is("whose(" + i + ", " + t + ")", x.whose(i, t), due[i]);
        }
    }

    private static HighWater bay(int people, int... told) {
        HighWater x = Due.bay(people);
        for (int each : told) {
            x.island(0, each, 0, 0);
        }
        return x;
    }

    private static void there() {
        Due.sentence("One is THERE, if the ISLAND one is on STANDS");
        HighWater x = Due.bay(1);
        x.island(2, 30, 5, 0);
        x.go(0, 3, 0);
        owners(x, 3, 0);
        Due.is("gain", x.gain(0, 3), 30);
        x.tide(3, 6);
        owners(x, 3, -1);
        Due.is("gain", x.gain(0, 3), 0);
        // Who is not THERE is in nobody's way.
        HighWater y = Due.bay(2);
        y.island(2, 30, 5, 0);
        y.island(5, 20, 9, 0);
        y.go(0, 3, 0);
        y.go(1, 3, 1);
        owners(y, 3, -1, -1);
        y.tide(3, 6);
        owners(y, 3, 1, 1);
    }

    private static void nobodyElse() {
        Due.sentence("AN ISLAND IS ONE'S, if this one, and nobody else, is THERE on it; else nobody's");
        HighWater x = bay(4, 10);
        owners(x, 0, -1);
        x.go(3, 0, 0);
        owners(x, 0, 3);
        x.go(0, 0, 0);
        owners(x, 0, -1);
        x.go(1, 0, 0);
        owners(x, 0, -1);
        x.go(2, 0, 0);
        owners(x, 0, -1);
        x.go(3, 0, -1);
        x.go(1, 0, -1);
        x.go(0, 0, -1);
        owners(x, 0, 2);
        owners(x, 1, -1);
        owners(x, 11, -1);
    }

    private static void oneWith() {
        Due.sentence("or on any that is ONE with it");
        HighWater x = Due.bay(4);
        for (int i = 0; i < 6; i++) {
            x.island(5, 1 + i, 9, i < 3 ? 0 : 5);
        }
        x.go(0, 0, 2);
        x.go(3, 0, 3);
        owners(x, 0, 0, 0, 0, 3, 3, 3);
        x.go(1, 0, 0);
        owners(x, 0, -1, -1, -1, 3, 3, 3);
        x.go(2, 0, 5);
        owners(x, 0, -1, -1, -1, -1, -1, -1);
        x.tide(0, 9);
        owners(x, 0, 1, -1, 0, 3, -1, 2);
    }

    private static void gainStanding() {
        Due.sentence("GAIN: WORTH of all ISLANDS that STAND and are one's, together");
        HighWater x = Due.bay(2);
        x.island(2, 50, 4, 0);
        x.island(5, 20, 9, 0);
        x.island(5, 3, 9, 1);
        x.island(0, 99, 0, 0);
        x.go(0, 0, 2);
        owners(x, 0, 0, 0, 0, -1);
        Due.is("gain", x.gain(0, 0), 23);
        x.tide(0, 4);
        Due.is("gain", x.gain(0, 0), 73);
        Due.is("another TIDE", x.gain(0, 1), 0);
    }

    private static void gainOfNone() {
        Due.sentence("GAIN, where none is one's");
        HighWater x = bay(2, 40);
        Due.is("on the SHORE", x.gain(0, 0), 0);
        x.go(0, 0, 0);
        x.go(1, 0, 0);
        Due.is("both", x.gain(0, 0) + x.gain(1, 0), 0);
        Due.is("no ISLANDS", Due.bay(1).gain(0, 11), 0);
        HighWater six = Due.bay(1);
        for (int i = 0; i < 6; i++) {
            six.island(3, 99, 0, 9);
        }
        six.go(0, 11, 5);
        Due.is("the most of one", six.gain(0, 11), 397);
        Due.is("laws", six.laws(0, 11, 397), 1);
    }

    private static void costAhead() {
        Due.sentence("COST: costs of going there from where one is at the TIDE ahead (the SHORE, of TIDE 0)");
        HighWater x = bay(2, 1, 1, 1, 1, 1, 1);
        x.go(0, 0, 5);
        x.go(0, 1, 2);
        x.go(0, 11, 5);
        Due.is("TIDE 0", x.costs(0, 0), 6);
        Due.is("TIDE 1", x.costs(0, 1), 3);
        Due.is("TIDE 2, to the SHORE", x.costs(0, 2), 0);
        // The TIDE ahead of 11 is 10, that of 0 is none: not 11.
        Due.is("TIDE 11", x.costs(0, 11), 6);
        x.go(0, 0, 0);
        x.go(0, 11, 0);
        Due.is("TIDE 0 again", x.costs(0, 0), 1);
        x.go(0, 10, 3);
        Due.is("TIDE 11 again", x.costs(0, 11), 3);
        Due.is("the other one's", x.costs(1, 11), 0);
    }

    private static void costOfNothing() {
        Due.sentence("COST 0, if that is the same, or to the SHORE");
        HighWater x = bay(1, 1, 1);
        Due.law(x, "worth 0;costs 77;storm 0;");
        x.go(0, 3, 1);
        x.go(0, 4, 1);
        x.go(0, 5, 0);
        Due.is("from the SHORE", x.costs(0, 3), 77);
        Due.is("the same", x.costs(0, 4), 0);
        Due.is("another one", x.costs(0, 5), 77);
        Due.is("to the SHORE", x.costs(0, 6), 0);
        Due.is("the SHORE again", x.costs(0, 7), 0);
        Due.is("the SHORE at first", x.costs(0, 0), 0);
    }

    private static void leftOnTheShore() {
        Due.sentence("LEFT: GAIN less COST (on the SHORE 0)");
        HighWater x = bay(1, 3);
        Due.law(x, "worth told;costs 3;storm 0;");
        Due.is("as much there", x.best(0, 0, 1), 0);
        Due.is("the SHORE", x.best(0, 0, 0), -1);
        Due.is("at rest on the SHORE", x.rest(0), 1);
        x.go(0, 0, 0);
        Due.is("at rest there", x.rest(0), 1);
        Due.is("family", x.family(1, 0, 1), 0);
    }

    private static void leftBelowNothing() {
        Due.sentence("LEFT can be below 0");
        HighWater x = bay(2, 10, 3);
        Due.law(x, "worth told;costs 7;storm 0;");
        x.go(0, 0, 1);
        Due.is("gain", x.gain(0, 0), 3);
        Due.is("costs", x.costs(0, 0), 7);
        Due.is("best", x.best(0, 0, 1), 3);
        Due.is("rest", x.rest(0), 0);
        Due.is("together of both", x.family(3, 0, 0), 3);
        Due.is("of like ones the first", x.family(3, 0, 1), 1);
        x.go(1, 0, 0);
        Due.is("best, where the other one is", x.best(0, 0, 0), -1);
    }

    private static void noMoreElsewhere() {
        Due.sentence("AT REST: nobody's LEFT would be more elsewhere");
        HighWater x = bay(2, 20, 21);
        // 20 less 1 and 21 less 2 are alike.
        x.go(0, 0, 0);
        x.go(1, 0, 1);
        Due.is("as much elsewhere", x.rest(0), 1);
        x.go(1, 0, -1);
        Due.is("the other one's would be more", x.rest(0), 0);
        x.go(1, 0, 0);
        Due.is("of both", x.rest(0), 0);
        HighWater y = bay(1, 20, 22);
        y.go(0, 0, 0);
        Due.is("1 more", y.rest(0), 0);
        y.go(0, 0, 1);
        Due.is("1 less", y.rest(0), 1);
    }

    private static void theShoreToo() {
        Due.sentence("AT REST (on the SHORE, too)");
        HighWater x = bay(1, 0);
        x.go(0, 0, 0);
        Due.is("it costs 1 for nothing", x.rest(0), 0);
        x.go(0, 0, -1);
        Due.is("the SHORE", x.rest(0), 1);
        x.go(0, 0, 0);
        x.go(0, 1, 0);
        Due.is("staying costs nothing", x.rest(1), 1);
    }

    private static void digits() {
        Due.sentence("as digits, one 0's the highest: 0 the SHORE, 1 more than the ISLAND's number");
        HighWater x = bay(4, 0, 0, 0, 0, 0, 99);
        Due.law(x, "worth told;costs 0;storm 0;");
        // Only the last ISLAND is WORTH going to: the first WAY is that the last one does.
        Due.is("first", x.ways(0, 1), 6);
        Due.is("of one 0", x.family(1, 0, 1), 6);
        Due.is("of two", x.family(9, 0, 1), 6);
        Due.law(x, "worth (number<4)*(40-number);costs 0;storm 0;");
        Due.is("all apart", x.family(15, 0, 1), 1234);
        Due.is("first", x.ways(0, 1), 1234);
        Due.law(x, "worth (1<number)*40;costs 0;storm 0;");
        Due.is("all apart", x.family(15, 0, 1), 3456);
        Due.is("two and three", x.family(6, 0, 1), 34);
    }

    private static void whoseUnderWater() {
        Due.sentence("16: Whose an ISLAND is behind a TIDE (STANDING or not); -1: nobody's");
        HighWater x = Due.bay(2);
        x.island(2, 10, 0, 0);
        x.island(5, 20, 9, 0);
        Due.is("nobody's", x.whose(0, 0), -1);
        x.go(1, 0, 1);
        Due.is("under water, by the other ISLAND", x.whose(0, 0), 1);
        x.go(1, 0, 0);
        Due.is("on what is under water", x.whose(0, 0), -1);
        Due.is("nor the other ISLAND", x.whose(1, 0), -1);
    }

    private static void whoseEnds() {
        Due.sentence("16: -5: no such ISLAND, TIDE");
        HighWater x = bay(4, 1, 1, 1, 1, 1, 1);
        x.go(3, 11, 5);
        Due.is("the last of all", x.whose(5, 11), 3);
        for (int bad : new int[] {-1, 6, MIN, MAX}) {
            Due.is("whose(" + bad + ", 0)", x.whose(bad, 0), -5);
        }
        for (int bad : new int[] {-1, 12, MIN, MAX}) {
            Due.is("whose(0, " + bad + ")", x.whose(0, bad), -5);
        }
        Due.is("not come yet", bay(1, 1, 1).whose(2, 0), -5);
        Due.is("none has come", Due.bay(1).whose(0, 0), -5);
    }

    private static void gainEnds() {
        Due.sentence("17: -5: no such one, TIDE");
        HighWater x = bay(3, 8);
        x.go(2, 11, 0);
        Due.is("the last of all", x.gain(2, 11), 8);
        for (int bad : new int[] {-1, 3, 4, MIN, MAX}) {
            Due.is("gain(" + bad + ", 0)", x.gain(bad, 0), -5);
        }
        for (int bad : new int[] {-1, 12, MIN, MAX}) {
            Due.is("gain(0, " + bad + ")", x.gain(0, bad), -5);
        }
    }

    private static void costsEnds() {
        Due.sentence("18: -5: no such one, TIDE");
        HighWater x = bay(3, 8, 8, 8);
        x.go(2, 11, 2);
        Due.is("the last of all", x.costs(2, 11), 3);
        for (int bad : new int[] {-1, 3, 4, MIN, MAX}) {
            Due.is("costs(" + bad + ", 0)", x.costs(bad, 0), -5);
        }
        for (int bad : new int[] {-1, 12, MIN, MAX}) {
            Due.is("costs(0, " + bad + ")", x.costs(0, bad), -5);
        }
    }

    private static void yearOfAll() {
        Due.sentence("19: Of all TIDES what 0 GAIN, 1 COST of one together");
        HighWater x = bay(2, 8, 8, 30);
        for (int what = 0; what < 3; what++) {
            Due.is("nothing yet, what " + what, x.year(1, what), 0);
        }
        x.go(1, 0, 2);
        Due.is("GAIN of TIDE 0", x.year(1, 0), 30);
        Due.is("COST of TIDE 0", x.year(1, 1), 3);
        x.go(1, 11, 1);
        Due.is("GAIN of TIDE 11 too", x.year(1, 0), 38);
        Due.is("COST of TIDE 11 too", x.year(1, 1), 5);
        Due.is("how many", x.year(1, 2), 2);
        Due.is("the other one", x.year(0, 0) + x.year(0, 1) + x.year(0, 2), 0);
        for (int t = 0; t < 12; t++) {
            x.go(1, t, 2);
        }
        Due.is("GAIN of all", x.year(1, 0), 360);
        Due.is("COST of all", x.year(1, 1), 3);
        Due.is("how many of all", x.year(1, 2), 12);
        Due.is("what 3", x.year(1, 3), -7);
        Due.is("what -1", x.year(1, -1), -7);
        Due.is("nobody", x.year(2, 0), -5);
        Due.is("-5 ahead of -7", x.year(-1, 3), -5);
    }

    private static void yearAboveNothing() {
        Due.sentence("19: 2 how many there are of which GAIN is above 0");
        HighWater x = bay(1, 0, 1);
        for (int t = 0; t < 12; t++) {
            x.go(0, t, 0);
        }
        Due.is("GAIN 0", x.year(0, 2), 0);
        x.go(0, 6, 1);
        Due.is("GAIN 1", x.year(0, 2), 1);
        Due.is("GAIN less than COST counts too", x.year(0, 1), 1 + 1 + 1);
    }

    private static void bestOfLikeOnes() {
        Due.sentence("20: of like ones the SHORE (-1), then the first ISLAND (what 0), how much (1)");
        HighWater x = bay(1, 1, 2, 3);
        Due.is("all 0: the SHORE", x.best(0, 0, 0), -1);
        Due.is("how much", x.best(0, 0, 1), 0);
        HighWater y = bay(1, 1, 5, 6, 7);
        Due.is("3 thrice: the first of these", y.best(0, 0, 0), 1);
        Due.is("how much", y.best(0, 0, 1), 3);
        y.go(0, 0, 3);
        Due.is("where one is does not matter", y.best(0, 0, 0), 1);
        HighWater z = bay(1, 1, 5, 6, 8);
        Due.is("the last one", z.best(0, 0, 0), 3);
        Due.is("how much", z.best(0, 0, 1), 4);
    }

    private static void bestOfNone() {
        Due.sentence("20: Where one's LEFT is most (nothing there yet); -5; -7");
        HighWater x = Due.bay(1);
        Due.is("no ISLANDS", x.best(0, 0, 0), -1);
        Due.is("how much", x.best(0, 0, 1), 0);
        Due.is("TIDE 11", x.best(0, 11, 1), 0);
        Due.is("what 2", x.best(0, 0, 2), -7);
        Due.is("what -1", x.best(0, 0, -1), -7);
        Due.is("nobody", x.best(1, 0, 0), -5);
        Due.is("TIDE 12", x.best(0, 12, 0), -5);
        Due.is("-5 ahead of -7", x.best(0, -1, 2), -5);
        // All that others are on is no GAIN.
        HighWater y = bay(4, 50, 50, 50);
        for (int p = 0; p < 3; p++) {
            y.go(p, 0, p);
        }
        Due.is("all taken", y.best(3, 0, 0), -1);
        Due.is("one's own is one's own", y.best(2, 0, 0), 2);
    }

    private static void wiseByThen() {
        Due.sentence("21: TIDE by TIDE from 0 on (COST from where one is by then)");
        HighWater x = bay(1, 2, 4);
        // Where one was ahead does not matter: from the SHORE 2-1, 4-2: on 1; then 4, staying.
        x.go(0, 0, 0);
        x.go(0, 5, 0);
        Due.is("wise", x.wise(0), 2 + 11 * 4);
        for (int t = 0; t < 12; t++) {
            Due.is("at", x.at(0, t), 1);
        }
        Due.is("once more", x.wise(0), 2 + 11 * 4);
        // HAY: 0 1 2 3 ..; ISLAND 3: from the SHORE 3-2; at 4 going (4-1) is as much as staying: the first ISLAND.
        HighWater y = Due.bay(1);
        y.island(1, 0, 0, 1);
        y.island(0, 3, 0, 0);
        Due.is("wise", y.wise(0), 1 + 3 + 3 + 3 + 3 + 5 + 6 + 7 + 8 + 9 + 10 + 11);
        for (int t = 0; t < 12; t++) {
            Due.is("at " + t, y.at(0, t), t < 4 ? 1 : 0);
        }
    }

    private static void wiseEnds() {
        Due.sentence("21: One truly is there: LEFT of all together");
        HighWater x = bay(2, 1, 30);
        x.go(0, 0, 1);
        x.go(0, 11, 0);
        x.go(1, 11, 1);
        // TIDE 0: 28, then 30 ten times; at 11 the other one is on it: the SHORE (1-1) and no more.
        Due.is("wise", x.wise(0), 28 + 10 * 30);
        Due.is("at 0", x.at(0, 0), 1);
        Due.is("at 10", x.at(0, 10), 1);
        Due.is("at 11", x.at(0, 11), -1);
        Due.is("the other one", x.at(1, 11), 1);
        HighWater none = Due.bay(1);
        Due.is("no ISLANDS", none.wise(0), 0);
        Due.is("at 11", none.at(0, 11), -1);
    }

    private static void wiseRefuses() {
        Due.sentence("21: -5: no such one");
        HighWater x = Bays.half();
        for (int bad : new int[] {-1, 2, 4, MIN, MAX}) {
            Due.is("wise(" + bad + ")", x.wise(bad), -5);
        }
        Due.same("wise, refused,", x, Bays.half());
    }

    private static void rest() {
        Due.sentence("22: Whether a TIDE is AT REST (1, 0). -5: no such TIDE");
        HighWater x = bay(1, 30);
        Due.is("rest(11)", x.rest(11), 0);
        x.go(0, 11, 0);
        Due.is("rest(11)", x.rest(11), 1);
        Due.is("rest(0)", x.rest(0), 0);
        for (int bad : new int[] {-1, 12, MIN, MAX}) {
            Due.is("rest(" + bad + ")", x.rest(bad), -5);
        }
        Due.is("nobody", new HighWater().rest(11), 1);
        Due.is("no ISLANDS", Due.bay(4).rest(0), 1);
    }

    private static void waysOfAll() {
        Due.sentence("23: Of all WAYS to be at a TIDE (the TIDE ahead as it is) those that are AT REST");
        HighWater x = bay(4, 0, 0, 0, 0, 0, 0);
        Due.law(x, "worth 0;costs 0;storm 0;");
        Due.is("all: 7 to the fourth", x.ways(11, 0), 2401);
        Due.is("the first", x.ways(11, 1), 0);
        Due.law(x, "worth 9;costs 0;storm 0;");
        Due.is("all apart on ISLANDS", x.ways(0, 0), 360);
        Due.is("the first", x.ways(0, 1), 1234);
        // One WAY alone: each where one was, for what it costs to go.
        Due.law(x, "worth 9;costs 50;storm 0;");
        for (int p = 0; p < 4; p++) {
            x.go(p, 4, 5 - p);
        }
        Due.is("as they were", x.ways(5, 1), 6543);
        Due.is("only as they were", x.ways(5, 0), 1);
        Due.is("from the SHORE", x.ways(4, 0), 1);
        Due.is("stay on the SHORE", x.ways(4, 1), 0);
    }

    private static void waysOfNobody() {
        Due.sentence("23: nobody; no ISLANDS; -5: no such TIDE; -7: what");
        HighWater nobody = new HighWater();
        nobody.island(0, 9, 0, 0);
        Due.is("one WAY", nobody.ways(0, 0), 1);
        Due.is("without digits", nobody.ways(0, 1), 0);
        HighWater none = Due.bay(4);
        Due.is("one WAY", none.ways(0, 0), 1);
        Due.is("all on the SHORE", none.ways(0, 1), 0);
        for (int bad : new int[] {-1, 12, MIN, MAX}) {
            Due.is("ways(" + bad + ", 0)", none.ways(bad, 0), -5);
            Due.is("-5 ahead of -7", none.ways(bad, 2), -5);
        }
        for (int bad : new int[] {-1, 2, MIN, MAX}) {
            Due.is("ways(0, " + bad + ")", none.ways(0, bad), -7);
        }
    }

    private static void familyOfNobody() {
        Due.sentence("24: the digits of these alone (1; 0: nobody)");
        HighWater x = bay(2, 50);
        x.go(0, 0, 0);
        Due.is("nobody has", x.family(0, 0, 0), 0);
        Due.is("nobody's digits", x.family(0, 0, 1), 0);
        Due.is("nobody at all has", new HighWater().family(0, 11, 0), 0);
        Due.is("nobody's digits at all", new HighWater().family(0, 11, 1), 0);
        Due.is("no ISLANDS", Due.bay(4).family(15, 0, 0), 0);
        Due.is("no ISLANDS", Due.bay(4).family(15, 0, 1), 0);
    }

    private static void familyDigits() {
        Due.sentence("24: the digits of these alone (1)");
        HighWater x = bay(4, 0, 0, 0, 0, 0, 90);
        x.go(1, 0, 3);
        for (int p = 0; p < 4; p++) {
            Due.is("of " + p + " alone", x.family(1 << p, 0, 1), 6);
            Due.is("how much", x.family(1 << p, 0, 0), 84);
        }
        Due.is("of the first and the last", x.family(9, 0, 1), 6);
        x.go(3, 0, 5);
        Due.is("where the last one is not of these", x.family(1, 0, 1), 0);
        Due.is("where the last one is of these", x.family(9, 0, 1), 6);
        // From ISLAND 5 the first one stays for nothing.
        x.go(0, 0, 5);
        x.go(0, 1, 5);
        Due.is("the first one's is the highest", x.family(9, 1, 1), 6);
        x.go(3, 0, -1);
        Due.is("the first one's is the highest", x.family(9, 1, 1), 60);
        Due.is("of three", x.family(11, 1, 1), 600);
        Due.is("of all", x.family(15, 1, 1), 6000);
    }

    private static void familyOfLikeOnes() {
        Due.sentence("24: of like ones the first");
        HighWater x = bay(3, 40, 41, 42);
        // 39 each: alone the first ISLAND; both in the order of digits.
        Due.is("alone", x.family(2, 0, 1), 1);
        Due.is("both", x.family(6, 0, 1), 12);
        Due.is("how much", x.family(6, 0, 0), 78);
        Due.is("all", x.family(7, 0, 1), 123);
        HighWater y = bay(2, 1);
        Due.is("as much as nothing", y.family(3, 0, 1), 0);
        y.go(0, 0, 0);
        y.go(1, 0, 0);
        Due.is("wherever they are", y.family(3, 0, 1), 0);
    }

    private static void familyPeople() {
        Due.sentence("24: -5: no such PEOPLE, TIDE; -7: what");
        for (int people = 0; people < 5; people++) {
            HighWater x = Due.bay(people);
            int all = (1 << people) - 1;
            Due.is("all", x.family(all, 0, 0), 0);
            for (int bad : new int[] {-1, all + 1, MIN, MAX, 1 << 8, MIN + 1}) {
                Due.is("family(" + bad + ", 0, 0)", x.family(bad, 0, 0), -5);
                Due.is("-5 ahead of -7", x.family(bad, 0, 2), -5);
            }
            for (int bad : new int[] {-1, 12, MIN, MAX}) {
                Due.is("family(0, " + bad + ", 0)", x.family(0, bad, 0), -5);
                Due.is("-5 ahead of -7", x.family(0, bad, 2), -5);
            }
            for (int bad : new int[] {-1, 2, MIN, MAX}) {
                Due.is("family(0, 0, " + bad + ")", x.family(0, 0, bad), -7);
            }
        }
    }

    private static void spoilOfLikeOnes() {
        Due.sentence("25: of like ones the SHORE (-1), then the first ISLAND (what 0), how much (1)");
        HighWater x = bay(4, 20, 30, 30, 5);
        x.go(1, 0, 0);
        x.go(2, 0, 1);
        x.go(3, 0, 2);
        Due.is("the first of like ones", x.spoil(0, 0, 0), 1);
        Due.is("how much", x.spoil(0, 0, 1), 50);
        x.go(0, 0, 2);
        Due.is("where one is does not matter", x.spoil(0, 0, 0), 1);
        Due.is("how much", x.spoil(0, 0, 1), 50);
        x.go(1, 0, -1);
        x.go(2, 0, -1);
        x.go(3, 0, -1);
        Due.is("nothing to spoil", x.spoil(0, 0, 0), -1);
        Due.is("how much", x.spoil(0, 0, 1), 0);
        x.go(3, 0, 3);
        Due.is("the last ISLAND", x.spoil(0, 0, 0), 3);
        Due.is("how much", x.spoil(0, 0, 1), 0);
        // The last one spoils it for all ahead.
        HighWater y = bay(4, 20, 30, 30, 5);
        for (int p = 0; p < 3; p++) {
            y.go(p, 0, 2 - p);
        }
        Due.is("the last one spoils", y.spoil(3, 0, 0), 1);
        Due.is("how much", y.spoil(3, 0, 1), 50);
        y.go(1, 0, 0);
        Due.is("alone is the first one", y.spoil(3, 0, 0), 2);
        Due.is("how much", y.spoil(3, 0, 1), 0);
    }

    private static void spoilOfNobody() {
        Due.sentence("25: GAIN of all others together (nobody else, no ISLANDS); -5; -7");
        HighWater x = bay(1, 50);
        x.go(0, 0, 0);
        Due.is("nobody else", x.spoil(0, 0, 0), -1);
        Due.is("how much", x.spoil(0, 0, 1), 0);
        Due.is("no ISLANDS", Due.bay(2).spoil(1, 11, 0), -1);
        Due.is("no ISLANDS", Due.bay(2).spoil(1, 11, 1), 0);
        Due.is("nobody", x.spoil(1, 0, 0), -5);
        Due.is("TIDE 12", x.spoil(0, 12, 0), -5);
        Due.is("-5 ahead of -7", x.spoil(0, -1, 2), -5);
        Due.is("what 2", x.spoil(0, 0, 2), -7);
        Due.is("what -1", x.spoil(0, 0, -1), -7);
        // Under water one spoils nothing.
        HighWater y = Due.bay(2);
        y.island(2, 9, 0, 0);
        y.island(5, 9, 9, 0);
        y.go(1, 0, 1);
        Due.is("not on 0", y.spoil(0, 0, 0), 1);
        y.tide(0, 0);
        Due.is("on 0", y.spoil(0, 0, 0), 0);
    }

    private static void ransom() {
        Due.sentence("26: How much more GAIN one would have of a TIDE, were another one on the SHORE");
        HighWater x = bay(4, 44, 7);
        Due.is("all on the SHORE", x.ransom(0, 3, 0), 0);
        x.go(3, 11, 0);
        Due.is("alone", x.ransom(3, 0, 11), 0);
        x.go(0, 11, 0);
        Due.is("of the one", x.ransom(0, 3, 11), 44);
        Due.is("of the other one", x.ransom(3, 0, 11), 44);
        x.go(1, 11, 0);
        Due.is("a third one is there", x.ransom(0, 3, 11), 0);
        x.go(1, 11, 1);
        Due.is("one who is elsewhere", x.ransom(1, 0, 11), 0);
        Due.is("another TIDE", x.ransom(0, 3, 10), 0);
    }

    private static void ransomAlike() {
        Due.sentence("26: -5: no such two (alike, too), TIDE");
        HighWater x = bay(3, 44);
        for (int p = 0; p < 3; p++) {
            Due.is("alike", x.ransom(p, p, 0), -5);
        }
        for (int bad : new int[] {-1, 3, 4, MIN, MAX}) {
            Due.is("ransom(" + bad + ", 0, 0)", x.ransom(bad, 0, 0), -5);
            Due.is("ransom(2, " + bad + ", 0)", x.ransom(2, bad, 0), -5);
            Due.is("nobody, alike", x.ransom(bad, bad, 0), -5);
        }
        for (int bad : new int[] {-1, 12, MIN, MAX}) {
            Due.is("ransom(0, 1, " + bad + ")", x.ransom(0, 1, bad), -5);
        }
        Due.is("the last TIDE", x.ransom(1, 2, 11), 0);
    }
}
