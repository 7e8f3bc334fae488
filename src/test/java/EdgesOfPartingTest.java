/** The edges that PARTING and promises 27 to 35 name: each sentence has a test of its own. */
public final class EdgesOfPartingTest {
    private static final int MIN = Integer.MIN_VALUE, MAX = Integer.MAX_VALUE;

    public static void main(String[] args) {
        partingOfStanding();
        partingOfLikeOnes();
        partingGoesRound();
        partingTurned();
        partingOfFew();
        shareEnds();
        shareRefuses();
        unfairEnds();
        unfairRefuses();
        dearOfLikeOnes();
        dearOfNobodys();
        dearBad();
        holdsOneBehindTheOther();
        holdsOfLikeOnes();
        holdsNone();
        holdsRefuses();
        judgeFirst();
        judgeNone();
        judgeRefuses();
        judgeSorts();
        whenTides();
        whenRefuses();
        wereWays();
        wereBits();
        wereRefuses();
        filmBecomes();
        filmOfNone();
        filmRefuses();
        lawsMuch();
        lawsOfTexts();
        lawsRefuses();
        Due.end();
    }

    private static HighWater bay(int people, int... told) {
        HighWater x = Due.bay(people);
        for (int each : told) {
            x.island(0, each, 0, 0);
        }
        return x;
    }

    private static void shares(HighWater x, int t, int from, int turned, int... due) {
        for (int p = 0; p < due.length; p++) {
            Due.is("share(" + p + ", " + t + ", " + from + ", " + turned + ")", x.share(p, t, from, turned), due[p]);
        }
    }

    private static void tell(HighWater x, int s, int sort, int... numbers) {
        Due.is("sheet", x.sheet(s, sort, numbers.length), 1);
        for (int i = 0; i < numbers.length; i++) {
            Due.is("cell", x.cell(s, i, numbers[i]), 1);
        }
    }

    private static void partingOfStanding() {
        Due.sentence("PARTING of ISLANDS that STAND at a TIDE, while any is left");
        HighWater x = Due.bay(2);
        x.island(2, 90, 5, 0);
        x.island(0, 10, 0, 0);
        shares(x, 0, 0, 0, 90, 10);
        x.tide(0, 6);
        shares(x, 0, 0, 0, 10, 0);
        shares(x, 0, 1, 0, 0, 10);
        // Who is where does not matter, nor what is ONE.
        x.tide(0, 5);
        x.go(0, 0, 1);
        x.go(1, 0, 1);
        shares(x, 0, 0, 0, 90, 10);
        HighWater y = Due.bay(2);
        y.island(2, 9, 0, 0);
        shares(y, 0, 0, 0, 0, 0);
        Due.is("none STANDS", y.unfair(0, 0, 0), 0);
    }

    private static void partingOfLikeOnes() {
        Due.sentence("each takes the one of most WORTH that is left, of like ones the first");
        // Of WORTH 1 are 0 and 2, of 4 are 1 and 3: each is taken once.
        HighWater x = bay(2, 1, 4, 1, 4);
        shares(x, 0, 0, 0, 5, 5);
        HighWater three = bay(3, 1, 4, 1, 4);
        shares(three, 0, 0, 0, 5, 4, 1);
        // All of WORTH 0 are taken too, ahead of none.
        HighWater y = bay(3, 0, 0, 0, 7);
        shares(y, 0, 2, 0, 0, 0, 7);
        shares(y, 0, 2, 1, 0, 0, 7);
    }

    private static void partingGoesRound() {
        Due.sentence("from one on, by numbers (behind the last one comes 0)");
        HighWater x = bay(4, 64, 32, 16, 8, 4, 2);
        shares(x, 0, 0, 0, 64 + 4, 32 + 2, 16, 8);
        shares(x, 0, 1, 0, 8, 64 + 4, 32 + 2, 16);
        shares(x, 0, 2, 0, 16, 8, 64 + 4, 32 + 2);
        shares(x, 0, 3, 0, 32 + 2, 16, 8, 64 + 4);
    }

    private static void partingTurned() {
        Due.sentence("if it is turned, every other round (the second, the fourth, ..) goes the other way round");
        HighWater one = bay(1, 64, 32, 16, 8, 4, 2);
        shares(one, 0, 0, 1, 126);
        HighWater two = bay(2, 64, 32, 16, 8, 4, 2);
        // Rounds 64 32, then 16 8 the other way round, then 4 2.
        shares(two, 0, 0, 1, 64 + 8 + 4, 32 + 16 + 2);
        shares(two, 0, 1, 1, 32 + 16 + 2, 64 + 8 + 4);
        HighWater three = bay(3, 64, 32, 16, 8, 4, 2);
        shares(three, 0, 0, 1, 64 + 2, 32 + 4, 16 + 8);
        shares(three, 0, 1, 1, 16 + 8, 64 + 2, 32 + 4);
        shares(three, 0, 2, 1, 32 + 4, 16 + 8, 64 + 2);
        HighWater four = bay(4, 64, 32, 16, 8, 4, 2);
        // The one who was last is first.
        shares(four, 0, 0, 1, 64, 32, 16 + 2, 8 + 4);
        shares(four, 0, 1, 1, 8 + 4, 64, 32, 16 + 2);
        shares(four, 0, 3, 1, 32, 16 + 2, 8 + 4, 64);
    }

    private static void partingOfFew() {
        Due.sentence("PARTING, with fewer ISLANDS than PEOPLE");
        HighWater x = bay(4, 5);
        shares(x, 0, 2, 0, 0, 0, 5, 0);
        shares(x, 0, 2, 1, 0, 0, 5, 0);
        HighWater none = Due.bay(4);
        shares(none, 0, 3, 1, 0, 0, 0, 0);
    }

    private static void shareEnds() {
        Due.sentence("27: from one on (turned 1, or 0): WORTH of all that one takes together");
        HighWater x = Due.bay(4);
        for (int i = 0; i < 6; i++) {
            x.island(3, 99, 0, 9);
        }
        shares(x, 11, 0, 0, 794, 794, 397, 397);
        // From 3: 3 0 1 2, then 2 1.
        shares(x, 11, 3, 1, 397, 794, 794, 397);
        HighWater alone = Due.bay(1);
        alone.island(3, 99, 0, 9);
        shares(alone, 11, 0, 0, 397);
        shares(alone, 0, 0, 1, 199);
    }

    private static void shareRefuses() {
        Due.sentence("27: -5: no such PEOPLE, TIDE; -7: turned");
        HighWater x = bay(3, 9);
        for (int bad : new int[] {-1, 3, 4, MIN, MAX}) {
            Due.is("share of " + bad, x.share(bad, 0, 0, 0), -5);
            Due.is("from " + bad, x.share(0, 0, bad, 0), -5);
            Due.is("-5 ahead of -7", x.share(bad, 0, 0, 2), -5);
            Due.is("-5 ahead of -7", x.share(0, 0, bad, 2), -5);
        }
        for (int bad : new int[] {-1, 12, MIN, MAX}) {
            Due.is("TIDE " + bad, x.share(0, bad, 0, 0), -5);
            Due.is("-5 ahead of -7", x.share(0, bad, 0, -1), -5);
        }
        for (int bad : new int[] {-1, 2, MIN, MAX}) {
            Due.is("turned " + bad, x.share(0, 0, 0, bad), -7);
        }
        Due.is("nobody", new HighWater().share(0, 0, 0, 0), -5);
    }

    private static void unfairEnds() {
        Due.sentence("28: How much more than the least the greatest of these is");
        Due.is("of one alone", bay(1, 9, 8).unfair(0, 0, 0), 0);
        Due.is("no ISLANDS", Due.bay(3).unfair(11, 2, 1), 0);
        Due.is("the least has none", bay(4, 9, 8).unfair(0, 1, 0), 9);
        HighWater x = bay(2, 9, 8);
        Due.is("9 and 8", x.unfair(0, 0, 0), 1);
        Due.is("8 and 9", x.unfair(0, 1, 0), 1);
        HighWater y = bay(3, 30, 20, 10);
        // The greatest and the least by each of the three.
        for (int from = 0; from < 3; from++) {
            Due.is("30 20 10 from " + from, y.unfair(11, from, 0), 20);
        }
        HighWater z = bay(2, 7, 5, 3, 1);
        Due.is("10 and 6", z.unfair(0, 0, 0), 4);
        Due.is("8 and 8", z.unfair(0, 0, 1), 0);
    }

    private static void unfairRefuses() {
        Due.sentence("28: -5: no such one, TIDE; -7: turned");
        HighWater x = bay(3, 9);
        for (int bad : new int[] {-1, 3, 4, MIN, MAX}) {
            Due.is("from " + bad, x.unfair(0, bad, 0), -5);
            Due.is("-5 ahead of -7", x.unfair(0, bad, 2), -5);
        }
        for (int bad : new int[] {-1, 12, MIN, MAX}) {
            Due.is("TIDE " + bad, x.unfair(bad, 0, 0), -5);
            Due.is("-5 ahead of -7", x.unfair(bad, 0, -1), -5);
        }
        for (int bad : new int[] {-1, 2, MIN, MAX}) {
            Due.is("turned " + bad, x.unfair(0, 0, bad), -7);
        }
        Due.is("nobody", new HighWater().unfair(0, 0, 0), -5);
    }

    private static void dear(HighWater x, int... due) {
        for (int what = 0; what < 4; what++) {
            Due.is("dear(" + what + ")", x.dear(what), due[what]);
        }
    }

    private static void dearOfLikeOnes() {
        Due.sentence("29: The TIDE at which WORTH of ISLANDS that STAND is most together, of like ones the first");
        dear(new HighWater(), 0, 0, 0, 0);
        HighWater x = bay(1, 10, 20);
        dear(x, 0, 30, 0, 30);
        x.island(2, 5, 5, 0);
        dear(x, 0, 35, 0, 35);
        x.tide(0, 6);
        dear(x, 1, 35, 1, 35);
        for (int t = 1; t < 11; t++) {
            x.tide(t, 6);
        }
        dear(x, 11, 35, 11, 35);
        x.tide(11, 6);
        dear(x, 0, 30, 0, 30);
        HighWater nothing = Due.bay(1);
        nothing.island(2, 9, 0, 0);
        dear(nothing, 0, 0, 0, 0);
    }

    private static void dearOfNobodys() {
        Due.sentence("29: likewise of those that are nobody's (2, 3)");
        HighWater x = bay(2, 10, 20);
        for (int t = 0; t < 12; t++) {
            x.go(0, t, 1);
        }
        dear(x, 0, 30, 0, 10);
        x.go(1, 11, 1);
        dear(x, 0, 30, 11, 30);
        for (int t = 0; t < 12; t++) {
            x.go(1, t, 0);
        }
        dear(x, 0, 30, 0, 0);
        x.go(0, 7, 0);
        dear(x, 0, 30, 7, 30);
        // What is under water is nobody's, but does not STAND.
        HighWater y = Due.bay(1);
        y.island(2, 40, 0, 0);
        dear(y, 0, 0, 0, 0);
        y.tide(11, 0);
        dear(y, 11, 40, 11, 40);
    }

    private static void dearBad() {
        Due.sentence("29: BAD");
        HighWater x = Bays.half();
        for (int bad : new int[] {-1, 4, MIN, MAX}) {
            Due.is("dear(" + bad + ")", x.dear(bad), -2);
        }
    }

    private static void holds(HighWater x, int p, int i, int most, int first) {
        Due.is("holds(" + p + ", " + i + ", 0)", x.holds(p, i, 0), most);
        Due.is("holds(" + p + ", " + i + ", 1)", x.holds(p, i, 1), first);
    }

    private static void holdsOneBehindTheOther() {
        Due.sentence("30: The most TIDES one behind the other of which an ISLAND is one's");
        HighWater x = bay(2, 9, 9);
        x.go(1, 0, 1);
        holds(x, 1, 1, 1, 0);
        x.go(1, 11, 1);
        // TIDE 0 is not behind 11.
        holds(x, 1, 1, 1, 0);
        x.go(1, 10, 1);
        holds(x, 1, 1, 2, 10);
        x.go(1, 1, 1);
        x.go(1, 2, 1);
        holds(x, 1, 1, 3, 0);
        for (int t = 0; t < 12; t++) {
            x.go(1, t, 1);
        }
        holds(x, 1, 1, 12, 0);
        x.go(0, 0, 1);
        holds(x, 1, 1, 11, 1);
        x.go(0, 11, 1);
        holds(x, 1, 1, 10, 1);
        x.go(0, 5, 1);
        holds(x, 1, 1, 5, 6);
    }

    private static void holdsOfLikeOnes() {
        Due.sentence("30: the first TIDE of these, of like ones the first");
        HighWater x = bay(1, 9);
        for (int t : new int[] {1, 2, 5, 6, 10, 11}) {
            x.go(0, t, 0);
        }
        holds(x, 0, 0, 2, 1);
        x.go(0, 1, -1);
        holds(x, 0, 0, 2, 5);
        x.go(0, 6, -1);
        holds(x, 0, 0, 2, 10);
        x.go(0, 11, -1);
        holds(x, 0, 0, 1, 2);
    }

    private static void holdsNone() {
        Due.sentence("30: -1: none");
        HighWater x = bay(2, 9);
        holds(x, 0, 0, 0, -1);
        for (int t = 0; t < 12; t++) {
            x.go(0, t, 0);
            x.go(1, t, 0);
        }
        holds(x, 0, 0, 0, -1);
        holds(x, 1, 0, 0, -1);
        // An ISLAND under water can be held, by one that STANDS.
        HighWater y = Due.bay(1);
        y.island(2, 9, 0, 0);
        y.island(5, 9, 6, 0);
        y.go(0, 4, 1);
        holds(y, 0, 0, 1, 4);
        y.go(0, 4, 0);
        holds(y, 0, 0, 0, -1);
    }

    private static void holdsRefuses() {
        Due.sentence("30: -5: no such one, ISLAND; -7: what");
        HighWater x = Bays.half();
        for (int bad : new int[] {-1, 2, 4, MIN, MAX}) {
            Due.is("holds(" + bad + ", 0, 0)", x.holds(bad, 0, 0), -5);
            Due.is("-5 ahead of -7", x.holds(bad, 0, 2), -5);
        }
        for (int bad : new int[] {-1, 3, 6, MIN, MAX}) {
            Due.is("holds(0, " + bad + ", 0)", x.holds(0, bad, 0), -5);
            Due.is("-5 ahead of -7", x.holds(0, bad, -1), -5);
        }
        for (int bad : new int[] {-1, 2, MIN, MAX}) {
            Due.is("holds(0, 0, " + bad + ")", x.holds(0, 0, bad), -7);
        }
    }

    private static void judgeFirst() {
        Due.sentence("31: the first ISLAND that is otherwise");
        HighWater x = bay(4, 1, 1, 1, 1, 1, 1);
        x.go(0, 11, 0);
        x.go(3, 11, 5);
        int[] owners = {0, -1, -1, -1, -1, 3};
        tell(x, 3, 2, owners);
        Due.is("none is", x.judge(3, 11), -1);
        for (int i = 5; i >= 0; i--) {
            x.cell(3, i, 2);
            Due.is("the first that is", x.judge(3, 11), i);
        }
        tell(x, 3, 2, owners);
        for (int wrong : new int[] {-2, 0, 1, 2, 4, MIN, MAX}) {
            x.cell(3, 5, wrong);
            Due.is("told " + wrong, x.judge(3, 11), 5);
        }
    }

    private static void judgeNone() {
        Due.sentence("31: (-1: nobody's) .. -1: none");
        HighWater x = bay(2, 1, 1);
        tell(x, 0, 2, -1, -1);
        Due.is("all nobody's", x.judge(0, 0), -1);
        x.go(0, 0, 1);
        x.go(1, 0, 1);
        Due.is("both are on it", x.judge(0, 0), -1);
        x.go(1, 0, -1);
        Due.is("one is on it", x.judge(0, 0), 1);
        HighWater none = new HighWater();
        none.sheet(0, 0, 0);
        Due.is("no ISLANDS", none.judge(0, 11), -1);
        // Under water, but one's.
        HighWater y = Due.bay(1);
        y.island(2, 9, 0, 0);
        y.island(5, 9, 6, 0);
        y.go(0, 0, 1);
        tell(y, 0, 0, 0, 0);
        Due.is("both are", y.judge(0, 0), -1);
    }

    private static void judgeRefuses() {
        Due.sentence("31: BAD: SHEET; -11; BAD: its size isn't how many ISLANDS there are; -5: no such TIDE");
        HighWater x = bay(1, 1, 1);
        tell(x, 0, 2, -1);
        tell(x, 1, 2, -1, -1);
        tell(x, 2, 2, -1, -1, -1);
        for (int bad : new int[] {-1, 4, MIN, MAX}) {
            Due.is("judge(" + bad + ", 0)", x.judge(bad, 0), -2);
            Due.is("judge(" + bad + ", 12)", x.judge(bad, 12), -2);
        }
        for (int bad : new int[] {-1, 12, MIN, MAX}) {
            Due.is("missing", x.judge(3, bad), -11);
            Due.is("1 less", x.judge(0, bad), -2);
            Due.is("1 more", x.judge(2, bad), -2);
            Due.is("as many", x.judge(1, bad), -5);
        }
        Due.is("1 less", x.judge(0, 0), -2);
        Due.is("1 more", x.judge(2, 0), -2);
        x.island(0, 1, 0, 0);
        Due.is("as many now", x.judge(2, 0), -1);
        Due.is("1 less now", x.judge(1, 0), -2);
    }

    private static void judgeSorts() {
        Due.sentence("31: a SHEET of any sort tells (bytes, shorts go round)");
        HighWater x = bay(4, 1);
        x.go(3, 0, 0);
        int[][] same = {{3, 3 + 256, 3 - 256, 3 + 65536, 3 + (1 << 31)}, {3, 3 + 65536, 3 - 65536, 3 + (1 << 31)}, {3}};
        int[][] other = {{-1, 255, 4, 2, 127, 128, -128}, {3 + 256, 3 - 256, 255, 65535, 32767, -32768, -1},
            {3 + 256, 3 + 65536, 3 + (1 << 31), 255, 65535, -1, MIN, MAX}};
        for (int sort = 0; sort < 3; sort++) {
            for (int v : same[sort]) {
                tell(x, 0, sort, v);
                Due.is(v + " of sort " + sort, x.judge(0, 0), -1);
            }
            for (int v : other[sort]) {
                tell(x, 0, sort, v);
                Due.is(v + " of sort " + sort, x.judge(0, 0), 0);
            }
        }
        int[][] nobodys = {{-1, 255, 65535, -257, MAX}, {-1, 65535, -65537, MAX}, {-1}};
        for (int sort = 0; sort < 3; sort++) {
            for (int v : nobodys[sort]) {
                tell(x, 0, sort, v);
                Due.is(v + " of sort " + sort + " is nobody's", x.judge(0, 1), -1);
            }
        }
    }

    private static void whenTides() {
        Due.sentence("32: TIDES (bits) for which that is -1");
        HighWater x = bay(2, 1, 1);
        tell(x, 0, 1, 1, -1);
        Due.is("none", x.when(0), 0);
        x.go(1, 0, 0);
        Due.is("the first", x.when(0), 1);
        x.go(1, 0, -1);
        x.go(1, 11, 0);
        Due.is("the last", x.when(0), 2048);
        for (int t = 0; t < 12; t++) {
            x.go(1, t, 0);
        }
        Due.is("all", x.when(0), 4095);
        x.go(0, 6, 1);
        Due.is("all but one", x.when(0), 4095 - 64);
        HighWater none = Due.bay(1);
        none.sheet(3, 2, 0);
        Due.is("no ISLANDS", none.when(3), 4095);
    }

    private static void whenRefuses() {
        Due.sentence("32: BAD, -11, BAD likewise");
        HighWater x = bay(1, 1, 1);
        tell(x, 0, 2, -1);
        tell(x, 1, 2, -1, -1);
        tell(x, 2, 2, -1, -1, -1);
        for (int bad : new int[] {-1, 4, MIN, MAX}) {
            Due.is("when(" + bad + ")", x.when(bad), -2);
        }
        Due.is("missing", x.when(3), -11);
        Due.is("1 less", x.when(0), -2);
        Due.is("1 more", x.when(2), -2);
        Due.is("as many", x.when(1), 4095);
    }

    private static void were(HighWater x, int t, int who, int howMany, int bits) {
        Due.is("were(0, " + t + ", " + who + ", 0)", x.were(0, t, who, 0), howMany);
        Due.is("were(0, " + t + ", " + who + ", 1)", x.were(0, t, who, 1), bits);
    }

    private static void wereWays() {
        Due.sentence("33: Of all WAYS to be at a TIDE those by which it is -1: how many");
        HighWater x = bay(4, 1, 1, 1, 1, 1, 1);
        tell(x, 0, 0, 0, 1, 2, 3, -1, -1);
        were(x, 11, 0, 1, 2);
        were(x, 11, 3, 1, 16);
        tell(x, 0, 0, -1, -1, -1, -1, -1, -1);
        // All on the SHORE 1; two together, two on the SHORE 6*6; three 4*6; four 6; two and two 3*30.
        were(x, 0, 2, 1 + 36 + 24 + 6 + 90, 127);
        tell(x, 0, 0, 0, 0, -1, -1, -1, -1);
        were(x, 0, 0, 0, 0);
        HighWater none = Due.bay(4);
        none.sheet(0, 0, 0);
        were(none, 0, 3, 1, 1);
        HighWater one = bay(1, 1);
        tell(one, 0, 0, 1);
        were(one, 0, 0, 0, 0);
    }

    private static void wereBits() {
        Due.sentence("33: 1 where one is by any of them (bits: 0 the SHORE, 1 more than the ISLAND's number)");
        HighWater x = bay(1, 1, 1, 1, 1, 1, 1);
        for (int i = 0; i < 6; i++) {
            tell(x, 0, 1, -1, -1, -1, -1, -1, -1);
            x.cell(0, i, 0);
            were(x, 0, 0, 1, 1 << i + 1);
        }
        tell(x, 0, 1, -1, -1, -1, -1, -1, -1);
        were(x, 0, 0, 1, 1);
        // Where one truly is does not matter.
        x.go(0, 0, 3);
        were(x, 0, 0, 1, 1);
        HighWater low = Due.bay(1);
        for (int i = 0; i < 6; i++) {
            low.island(2, 1, 0, 0);
        }
        tell(low, 0, 2, -1, -1, -1, -1, -1, -1);
        were(low, 0, 0, 7, 127);
        low.tide(0, 0);
        were(low, 0, 0, 1, 1);
    }

    private static void wereRefuses() {
        Due.sentence("33: BAD, -11, BAD likewise; -5: no such TIDE, one; -7: what");
        HighWater x = bay(2, 1, 1);
        tell(x, 0, 2, -1);
        tell(x, 1, 2, -1, -1);
        tell(x, 2, 2, -1, -1, -1);
        for (int bad : new int[] {-1, 4, MIN, MAX}) {
            Due.is("BAD", x.were(bad, 12, 9, 2), -2);
        }
        Due.is("missing", x.were(3, 12, 9, 2), -11);
        Due.is("1 less", x.were(0, 12, 9, 2), -2);
        Due.is("1 more", x.were(2, 12, 9, 2), -2);
        for (int bad : new int[] {-1, 12, MIN, MAX}) {
            Due.is("TIDE " + bad, x.were(1, bad, 0, 0), -5);
            Due.is("-5 ahead of -7", x.were(1, bad, 0, 2), -5);
        }
        for (int bad : new int[] {-1, 2, 4, MIN, MAX}) {
            Due.is("one " + bad, x.were(1, 0, bad, 0), -5);
            Due.is("-5 ahead of -7", x.were(1, 0, bad, -1), -5);
        }
        for (int bad : new int[] {-1, 2, MIN, MAX}) {
            Due.is("what " + bad, x.were(1, 0, 0, bad), -7);
        }
    }

    private static void filmBecomes() {
        Due.sentence("34: A SHEET truly becomes that (ints): how many ISLANDS");
        for (int s = 0; s < 4; s++) {
            HighWater x = bay(4, 1, 1, 1, 1, 1, 1);
            x.go(0, 11, 0);
            x.go(3, 11, 5);
            x.sheet(s, s - 1, 40);
            Due.is("film", x.film(s, 11), 6);
            Due.is("judge", x.judge(s, 11), -1);
            Due.is("when", x.when(s), 2048);
            Due.is("its last place", x.cell(s, 5, 3), 1);
            Due.is("no place beyond", x.cell(s, 6, 3), -12);
            Due.is("it is of ints", x.islandsBy(s, 2, 0, 0), 0);
            // -1 is no number of an ISLAND.
            Due.is("0 -1 -1 -1", x.islandsBy(s, 2, 0, 1), 0);
            Due.is("film again", x.film(s, 0), 6);
            Due.is("nobody's now", x.judge(s, 0), -1);
            Due.is("otherwise now", x.judge(s, 11), 0);
        }
    }

    private static void filmOfNone() {
        Due.sentence("34: how many ISLANDS (none)");
        HighWater x = Due.bay(2);
        x.sheet(1, 0, 7);
        Due.is("film", x.film(1, 0), 0);
        Due.is("no place", x.cell(1, 0, 0), -12);
        Due.is("it is of ints", x.islandsBy(1, 2, 0, 0), 0);
        Due.is("judge", x.judge(1, 0), -1);
        x.island(0, 1, 0, 0);
        Due.is("its size stays", x.judge(1, 0), -2);
    }

    private static void filmRefuses() {
        Due.sentence("34: BAD: SHEET; -5: no such TIDE");
        HighWater x = Bays.full();
        for (int bad : new int[] {-1, 4, MIN, MAX}) {
            Due.is("film(" + bad + ", 0)", x.film(bad, 0), -2);
            Due.is("BAD ahead of -5", x.film(bad, 12), -2);
        }
        for (int bad : new int[] {-1, 12, MIN, MAX}) {
            Due.is("film(0, " + bad + ")", x.film(0, bad), -5);
            Due.is("of a missing one", x.film(2, bad), -5);
        }
        Due.same("film, refused,", x, Bays.full());
    }

    private static void lawsMuch() {
        Due.sentence("35: GAIN is just so much (0 .. 99999)");
        HighWater x = Due.bay(2);
        for (int i = 0; i < 6; i++) {
            x.island(i == 0 ? 3 : 5, 99, 9, 0);
        }
        Due.is("0", x.laws(0, 0, 0), 1);
        x.go(0, 0, 5);
        Due.is("199 and 5 times 99", x.laws(0, 0, 199 + 5 * 99), 1);
        Due.is("1 less", x.laws(0, 0, 199 + 5 * 99 - 1), 0);
        Due.is("1 more", x.laws(0, 0, 199 + 5 * 99 + 1), 0);
        Due.is("0", x.laws(0, 0, 0), 0);
        Due.is("99999", x.laws(0, 0, 99999), 0);
        for (int bad : new int[] {-1, 100000, MIN, MAX}) {
            Due.is("much " + bad, x.laws(0, 0, bad), -7);
        }
    }

    private static void lawsOfTexts() {
        Due.sentence("35: TEXTS (bits), were they THE LAW");
        HighWater x = bay(1, 7);
        x.go(0, 11, 0);
        Due.is("TEXT 0 alone", x.laws(0, 11, 7), 1);
        for (int k = 1; k < 6; k++) {
            Due.text(x, "worth " + (k == 5 ? "7" : "tide+" + k) + ";costs 0;storm 0;");
        }
        Due.is("the first and the last", x.laws(0, 11, 7), 33);
        Due.is("text 1", x.laws(0, 11, 12), 2);
        Due.is("text 4", x.laws(0, 11, 15), 16);
        x.force(5);
        Due.is("whichever is THE LAW", x.laws(0, 11, 7), 33);
        Due.is("which stays", x.count(3), 5);
        Due.is("of none", x.laws(0, 11, 8), 0);
        x.go(0, 11, -1);
        Due.is("all", x.laws(0, 11, 0), 63);
    }

    private static void lawsRefuses() {
        Due.sentence("35: -5: no such one, TIDE; -7: much");
        HighWater x = Bays.half();
        for (int bad : new int[] {-1, 2, 4, MIN, MAX}) {
            Due.is("laws(" + bad + ", 0, 0)", x.laws(bad, 0, 0), -5);
            Due.is("-5 ahead of -7", x.laws(bad, 0, -1), -5);
        }
        for (int bad : new int[] {-1, 12, MIN, MAX}) {
            Due.is("laws(0, " + bad + ", 0)", x.laws(0, bad, 0), -5);
            Due.is("-5 ahead of -7", x.laws(0, bad, 100000), -5);
        }
    }
}
