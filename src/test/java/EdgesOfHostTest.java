/** The edges that DRAWN, IMAGE, SHEETS and promises 36 to 44 name: each sentence has a test of its own. */
public final class EdgesOfHostTest {
    private static final int MIN = Integer.MIN_VALUE, MAX = Integer.MAX_VALUE;
    /** The first four LOTS modulo 100 of some SEEDS. */
    private static final int[][] LOTS = {{0, 71, 94, 86, 37}, {1, 42, 88, 25, 27}, {7, 68, 52, 0, 67},
        {68, 99, 51, 7, 86}, {99, 0, 24, 80, 17}, {99998, 35, 65, 16, 43}, {99999, 6, 59, 55, 33}};

    public static void main(String[] args) {
        keptBelowStorm();
        keptFromIslandsAlone();
        keptUnderWater();
        drawnGain();
        drawnSeeds();
        drawnRefuses();
        meanOfOne();
        meanOfForty();
        meanLowestTerms();
        meanBehindLastSeed();
        meanRefuses();
        imageOfNone();
        imageKeeps();
        imageKeepsNoMore();
        imageOfLast();
        backState();
        backAgain();
        sheetsMissingAtFirst();
        sheetSizes();
        sheetSorts();
        sheetAllZero();
        sheetMissing();
        sheetRefuses();
        cellPlaces();
        cellRound();
        cellRefuses();
        copyWhole();
        copyOwn();
        copySorts();
        copyOutside();
        copyRefuses();
        islandsByPlaces();
        islandsByLeftOut();
        islandsByOutside();
        islandsByRefuses();
        takenTides();
        takenIslands();
        takenNothing();
        takenRefuses();
        Due.end();
    }

    private static HighWater stormy(int people, int storm) {
        HighWater x = Due.bay(people);
        x.island(0, 20, 0, 0);
        Due.law(x, "worth told;costs 0;storm " + storm + ";");
        return x;
    }

    private static void keptBelowStorm() {
        Due.sentence("one who is on an ISLAND is KEPT on the SHORE, if LOT modulo 100 is below storm");
        for (int[] lots : LOTS) {
            for (int p = 0; p < 4; p++) {
                int lot = lots[1 + p];
                for (int storm = Math.max(0, lot - 1); storm <= Math.min(100, lot + 2); storm++) {
                    HighWater x = stormy(4, storm);
                    x.go(p, 11, 0);
                    Due.is("SEED " + lots[0] + ", LOT " + lot + ", storm " + storm, x.drawn(lots[0], 0, 11, 0),
                            lot < storm ? 1 << p : 0);
                }
            }
        }
        for (int[] lots : LOTS) {
            HighWater never = stormy(4, 0);
            HighWater always = stormy(4, 100);
            for (int p = 0; p < 4; p++) {
                never.go(p, 0, 0);
                always.go(p, 0, 0);
            }
            Due.is("storm 0", never.drawn(lots[0], 0, 0, 0), 0);
            Due.is("storm 100", always.drawn(lots[0], 0, 0, 0), 15);
        }
    }

    private static void keptFromIslandsAlone() {
        Due.sentence("for each of PEOPLE, by numbers, a LOT: one who is on an ISLAND is KEPT");
        HighWater x = stormy(4, 100);
        Due.is("all on the SHORE", x.drawn(0, 0, 0, 0), 0);
        // LOTS of 99: 0 24 80 17. One on the SHORE has a LOT as well.
        HighWater y = stormy(4, 18);
        y.go(3, 0, 0);
        Due.is("the last one alone", y.drawn(99, 0, 0, 0), 8);
        y.go(1, 0, 0);
        Due.is("24 is not below 18", y.drawn(99, 0, 0, 0), 8);
        y.go(0, 0, 0);
        Due.is("0 is", y.drawn(99, 0, 0, 0), 9);
        Due.is("another TIDE", y.drawn(99, 0, 1, 0), 0);
    }

    private static void keptUnderWater() {
        Due.sentence("one who is on an ISLAND (STANDING or not) is KEPT");
        HighWater x = Due.bay(1);
        x.island(2, 20, 0, 0);
        x.go(0, 0, 0);
        Due.law(x, "worth told;costs 0;storm 100;");
        Due.is("on what is under water", x.drawn(0, 0, 0, 0), 1);
    }

    private static void drawnGain() {
        Due.sentence("36: 1 GAIN of one, these being on the SHORE");
        HighWater x = stormy(2, 50);
        x.go(0, 0, 0);
        x.go(1, 0, 0);
        // LOTS of 1 are 42 88: the first one is KEPT; of 0 71 94: none; of 99999 6 59.
        Due.is("of the one KEPT", x.drawn(1, 0, 0, 1), 0);
        Due.is("of the other one", x.drawn(1, 1, 0, 1), 20);
        Due.is("none KEPT", x.drawn(0, 0, 0, 1) + x.drawn(0, 1, 0, 1), 0);
        Due.is("where they truly are", x.at(0, 0) + x.at(1, 0), 0);
        // LOTS of 7 are 68 52 0 67: below 53 are those of the second and the third one, below 68 that of the last one.
        HighWater four = stormy(4, 53);
        four.go(0, 0, 0);
        four.go(1, 0, 0);
        Due.is("of the one not KEPT", four.drawn(7, 0, 0, 1), 20);
        Due.is("of the second one", four.drawn(7, 1, 0, 1), 0);
        four.go(2, 0, 0);
        Due.is("two are KEPT", four.drawn(7, 0, 0, 1), 20);
        four.go(3, 0, 0);
        Due.is("another one is not", four.drawn(7, 0, 0, 1), 0);
        Due.law(four, "worth told;costs 0;storm 68;");
        Due.is("all others are KEPT", four.drawn(7, 0, 0, 1), 20);
        Due.is("of the last one", four.drawn(7, 3, 0, 1), 0);
        HighWater y = stormy(1, 50);
        Due.is("on the SHORE", y.drawn(1, 0, 0, 1), 0);
        y.go(0, 0, 0);
        Due.is("KEPT", y.drawn(1, 0, 0, 1), 0);
        Due.is("not KEPT", y.drawn(0, 0, 0, 1), 20);
    }

    private static void drawnSeeds() {
        Due.sentence("DRAWN by a SEED (0 .. 99999)");
        HighWater x = stormy(4, 50);
        for (int p = 0; p < 4; p++) {
            x.go(p, 0, 0);
        }
        Due.is("SEED 0", x.drawn(0, 3, 0, 0), 8);
        Due.is("SEED 99999", x.drawn(99999, 3, 0, 0), 9);
        Due.is("SEED 99998", x.drawn(99998, 3, 0, 0), 13);
        Due.is("SEED 1", x.drawn(1, 3, 0, 0), 13);
        for (int bad : new int[] {-1, 100000, MIN, MAX}) {
            Due.is("SEED " + bad, x.drawn(bad, 0, 0, 0), -7);
        }
    }

    private static void drawnRefuses() {
        Due.sentence("36: -5: no such one, TIDE; -7: SEED, what");
        HighWater x = stormy(2, 50);
        for (int bad : new int[] {-1, 2, 4, MIN, MAX}) {
            Due.is("drawn of " + bad, x.drawn(0, bad, 0, 0), -5);
            Due.is("-5 ahead of -7", x.drawn(-1, bad, 0, 2), -5);
        }
        for (int bad : new int[] {-1, 12, MIN, MAX}) {
            Due.is("TIDE " + bad, x.drawn(0, 0, bad, 0), -5);
            Due.is("-5 ahead of -7", x.drawn(100000, 0, bad, 0), -5);
        }
        for (int bad : new int[] {-1, 2, MIN, MAX}) {
            Due.is("what " + bad, x.drawn(0, 0, 0, bad), -7);
        }
    }

    private static void mean(HighWater x, int seed, int seeds, long above, long below) {
        Due.is("mean(0, 0, " + seed + ", " + seeds + ", 0)", x.mean(0, 0, seed, seeds, 0), above);
        Due.is("mean(0, 0, " + seed + ", " + seeds + ", 1)", x.mean(0, 0, seed, seeds, 1), below);
    }

    private static void meanOfOne() {
        Due.sentence("37: The mean of that GAIN over so many (1 .. 40) seeds: one");
        HighWater x = stormy(1, 50);
        mean(x, 0, 1, 0, 1);
        x.go(0, 0, 0);
        mean(x, 0, 1, 20, 1);
        mean(x, 1, 1, 0, 1);
        mean(x, 99999, 1, 0, 1);
    }

    private static void meanOfForty() {
        Due.sentence("37: SEED and each 1 more: forty");
        HighWater never = stormy(1, 0);
        never.go(0, 0, 0);
        mean(never, 0, 40, 20, 1);
        HighWater always = stormy(1, 100);
        always.go(0, 0, 0);
        mean(always, 0, 40, 0, 1);
        // As often as DRAWN by each of them says so; the fortieth among them, no forty-first.
        HighWater x = stormy(1, 72);
        x.go(0, 0, 0);
        int sum = 0;
        for (int seed = 31; seed < 71; seed++) {
            sum += x.drawn(seed, 0, 0, 1);
        }
        long above = x.mean(0, 0, 31, 40, 0);
        Due.is("above times 40", above * 40, sum * x.mean(0, 0, 31, 40, 1));
        HighWater y = stormy(1, 1);
        y.go(0, 0, 0);
        // The first LOT of 99 ends with 00: of 40 seeds it is the last, the first, or beyond.
        mean(y, 60, 40, 39, 2);
        mean(y, 99, 40, 39, 2);
        mean(y, 59, 40, 20, 1);
        mean(y, 100, 40, 20, 1);
    }

    private static void meanLowestTerms() {
        Due.sentence("37: part 0 above, 1 below the line, in lowest terms");
        HighWater x = stormy(1, 50);
        x.go(0, 0, 0);
        // First LOTS of 0 .. 5: 71 42 13 84 55 26.
        mean(x, 0, 2, 10, 1);
        mean(x, 0, 3, 20, 3);
        mean(x, 0, 4, 10, 1);
        mean(x, 0, 5, 12, 1);
        mean(x, 0, 6, 10, 1);
        mean(x, 1, 2, 0, 1);
        mean(x, 1, 3, 20, 3);
        HighWater y = Due.bay(1);
        y.island(0, 7, 0, 0);
        Due.law(y, "worth told;costs 0;storm 50;");
        y.go(0, 0, 0);
        mean(y, 0, 2, 7, 2);
        mean(y, 0, 3, 7, 3);
        mean(y, 0, 4, 7, 2);
        mean(y, 0, 5, 21, 5);
    }

    private static void meanBehindLastSeed() {
        Due.sentence("37: SEED and each 1 more, behind 99999 too");
        HighWater x = stormy(1, 50);
        x.go(0, 0, 0);
        // First LOTS of 99999 and on: 6 77 48 19 90.
        mean(x, 99999, 2, 10, 1);
        mean(x, 99999, 3, 20, 3);
        mean(x, 99998, 3, 20, 3);
        mean(x, 99999, 5, 8, 1);
        // Behind 99999 there is no 0: its LOT is 71.
        Due.law(x, "worth told;costs 0;storm 75;");
        mean(x, 99999, 2, 10, 1);
        mean(x, 0, 1, 0, 1);
    }

    private static void meanRefuses() {
        Due.sentence("37: NO: none such");
        HighWater x = stormy(2, 50);
        long no = HighWater.NO;
        for (int bad : new int[] {-1, 2, 4, MIN, MAX}) {
            Due.is("one " + bad, x.mean(bad, 0, 0, 1, 0), no);
        }
        for (int bad : new int[] {-1, 12, MIN, MAX}) {
            Due.is("TIDE " + bad, x.mean(0, bad, 0, 1, 0), no);
        }
        for (int bad : new int[] {-1, 100000, MIN, MAX}) {
            Due.is("SEED " + bad, x.mean(0, 0, bad, 1, 0), no);
        }
        for (int bad : new int[] {-1, 0, 41, MIN, MAX}) {
            Due.is("seeds " + bad, x.mean(0, 0, 0, bad, 0), no);
        }
        for (int bad : new int[] {-1, 2, MIN, MAX}) {
            Due.is("part " + bad, x.mean(0, 0, 0, 1, bad), no);
        }
        Due.is("nobody", new HighWater().mean(0, 0, 0, 1, 0), no);
    }

    private static void imageOfNone() {
        Due.sentence("38: AN IMAGE is kept: how many ISLANDS (none)");
        HighWater x = new HighWater();
        Due.is("image", x.image(), 0);
        x.island(0, 1, 2, 3);
        x.come();
        x.go(0, 0, 0);
        x.tide(11, 9);
        Due.is("back", x.back(), 0);
        x.image();
        HighWater y = new HighWater();
        y.image();
        Due.same("image of nothing and back", x, y);
    }

    private static void imageKeeps() {
        Due.sentence("AN IMAGE keeps how HIGH TIDES are, where each one is, how many PEOPLE and ISLANDS, THE LAW");
        HighWater x = Bays.full();
        Due.is("image", x.image(), 6);
        for (int t = 0; t < 12; t++) {
            x.tide(t, 8);
            for (int p = 0; p < 4; p++) {
                x.go(p, t, (p + t) % 6);
            }
        }
        x.force(2);
        Due.is("back", x.back(), 6);
        HighWater y = Bays.full();
        y.image();
        Due.same("image, much else and back", x, y);
        HighWater half = Bays.half();
        Due.is("image", half.image(), 3);
        half.come();
        half.come();
        half.island(0, 5, 5, 5);
        half.go(3, 3, 3);
        Due.is("back", half.back(), 3);
        HighWater other = Bays.half();
        other.image();
        Due.same("image, more PEOPLE, ISLANDS and back", half, other);
    }

    private static void imageKeepsNoMore() {
        Due.sentence("AN IMAGE keeps no TAPE, no TEXTS, no SHEETS");
        HighWater x = new HighWater();
        Due.is("image", x.image(), 0);
        Due.text(x, "worth 5;costs 0;storm 0;");
        x.force(1);
        Due.feed(x, "worth 6;costs 0;sto");
        x.sheet(0, 2, 4);
        x.cell(0, 1, 77);
        Due.is("back", x.back(), 0);
        Due.is("TEXTS", x.count(2), 2);
        Due.is("THE LAW", x.count(3), 0);
        Due.is("THE TAPE", x.count(4), 19);
        Due.is("the TEXT", Due.text(x, "rm 0;"), 2);
        Due.is("the SHEET", x.islandsBy(0, 2, 0, 1), 1);
        Due.is("its number", x.told(0, 1), 77);
        x.force(1);
        Due.is("text 1", x.asks(0, 0, 0, 0, 0), 5);
        x.force(2);
        Due.is("text 2", x.asks(0, 0, 0, 0, 0), 6);
        x.sheet(0, -1, 0);
        x.back();
        Due.is("missing stays missing", x.cell(0, 0, 0), -11);
    }

    private static void imageOfLast() {
        Due.sentence("38: THE IMAGE is the last one kept");
        HighWater x = Due.bay(1);
        x.tide(0, 1);
        x.image();
        x.tide(0, 2);
        x.island(0, 1, 1, 1);
        Due.is("image", x.image(), 1);
        x.tide(0, 3);
        x.island(0, 1, 1, 1);
        Due.is("back", x.back(), 1);
        Due.is("height", x.height(0), 2);
    }

    private static void backState() {
        Due.sentence("39: STATE: there is none");
        HighWater x = Bays.half();
        Due.is("back", x.back(), HighWater.STATE);
        Due.is("back again", x.back(), HighWater.STATE);
        Due.same("back, STATE,", x, Bays.half());
    }

    private static void backAgain() {
        Due.sentence("39: All that it keeps is as in THE IMAGE: how many ISLANDS there are");
        HighWater x = Bays.full();
        Due.is("back", x.back(), 1);
        HighWater y = Bays.full();
        y.back();
        Due.is("back again", x.back(), 1);
        x.tide(3, 1);
        x.come();
        x.island(2, 2, 2, 2);
        x.go(1, 1, 1);
        x.force(1);
        Due.is("back once more", x.back(), 1);
        Due.same("back once more", x, y);
        HighWater z = Bays.full();
        z.back();
        Due.is("PEOPLE that came since are none", z.at(1, 0), -5);
        Due.is("ISLANDS that came since are none", z.told(1, 0), -5);
        Due.is("nobody is where they were", z.whose(0, 0), -1);
        Due.is("nor is anything taken", z.taken(13, 0), -11);
        Due.is("nor can one go there", z.go(0, 0, 1), -7);
        Due.is("the next one", z.come(), 1);
        Due.is("is on the SHORE", z.at(1, 0), -1);
    }

    // ---- sheets

    private static void tell(HighWater x, int s, int sort, int... numbers) {
        Due.is("sheet", x.sheet(s, sort, numbers.length), 1);
        for (int i = 0; i < numbers.length; i++) {
            Due.is("cell", x.cell(s, i, numbers[i]), 1);
        }
    }

    /** Numbers of a row of 4 or more are told by the ISLANDS that can come of them. */
    private static void row(HighWater x, int s, int sort, int... due) {
        x.image();
        for (int k = 0; k < due.length; k++) {
            int from = Math.min(k, due.length - 4);
            int i = x.count(0);
            Due.is("four of the row", x.islandsBy(s, sort, from, 1), 1);
            Due.is("number " + k, x.told(i, k - from), due[k]);
            x.back();
        }
        Due.is("the row's end", x.cell(s, due.length, 0), -12);
    }

    private static void sheetsMissingAtFirst() {
        Due.sentence("SHEETS 0 .. 3 are rows of numbers, or missing (as all are at first)");
        HighWater x = new HighWater();
        for (int s = 0; s < 4; s++) {
            Due.is("cell", x.cell(s, 0, 0), -11);
            Due.is("judge", x.judge(s, 0), -11);
        }
        for (int s = 0; s < 4; s++) {
            Due.is("sheet", x.sheet(s, 0, 1), 1);
            Due.is("cell", x.cell(s, 0, 0), 1);
            Due.is("the next one", x.cell(s + 1, 0, 0), s < 3 ? -11 : -2);
        }
        Due.is("sheet 4", x.sheet(4, 0, 1), -2);
        Due.is("sheet -1", x.sheet(-1, 0, 1), -2);
    }

    private static void sheetSizes() {
        Due.sentence("SHEETS: 40 at most");
        HighWater x = new HighWater();
        for (int n : new int[] {0, 1, 39, 40}) {
            for (int sort = 0; sort < 3; sort++) {
                Due.is("sheet of " + n, x.sheet(2, sort, n), 1);
                Due.is("the last place", x.cell(2, n - 1, 1), n == 0 ? -12 : 1);
                Due.is("the place beyond", x.cell(2, n, 1), -12);
            }
        }
        Due.is("sheet of 41", x.sheet(2, 0, 41), -2);
        Due.is("it stays", x.cell(2, 39, 1), 1);
        Due.is("sheet of -1", x.sheet(2, 0, -1), -14);
        Due.is("it stays", x.cell(2, 39, 1), 1);
    }

    private static void sheetSorts() {
        Due.sentence("of sort 0 bytes, 1 shorts, 2 ints");
        HighWater x = new HighWater();
        for (int sort = 0; sort < 3; sort++) {
            x.sheet(sort, sort, 4);
            for (int asked = 0; asked < 3; asked++) {
                Due.is("sort " + sort + " as " + asked, x.islandsBy(sort, asked, 0, 0), asked == sort ? 0 : -13);
            }
        }
        for (int s = 0; s < 3; s++) {
            for (int other = 0; other < 3; other++) {
                Due.is("copy " + s + " to " + other, x.copy(s, 0, other, 0, 4), s == other ? 4 : -13);
            }
        }
        Due.is("sort 3", x.sheet(3, 3, 4), -2);
        Due.is("sort -2", x.sheet(3, -2, 4), -2);
        Due.is("still missing", x.cell(3, 0, 0), -11);
    }

    private static void sheetAllZero() {
        Due.sentence("40: A SHEET becomes a row of n of a sort, all 0");
        HighWater x = new HighWater();
        for (int sort = 0; sort < 3; sort++) {
            x.sheet(0, sort, 24);
            for (int i = 0; i < 24; i++) {
                x.cell(0, i, 5);
            }
            x.sheet(0, 2 - sort, 24);
            x.image();
            Due.is("six of zeros", x.islandsBy(0, 2 - sort, 0, 6), 6);
            for (int k = 0; k < 24; k++) {
                Due.is("told", x.told(k / 4, k % 4), 0);
            }
            x.back();
        }
        x.sheet(0, 2, 2);
        x.sheet(0, 2, 40);
        row(x, 0, 2, new int[40]);
    }

    private static void sheetMissing() {
        Due.sentence("40: or missing (sort -1: n does not matter): 1");
        HighWater x = new HighWater();
        for (int n : new int[] {0, 40, 41, -1, MIN, MAX}) {
            tell(x, 1, 0, 1, 1, 1, 1);
            Due.is("sheet(1, -1, " + n + ")", x.sheet(1, -1, n), 1);
            Due.is("missing", x.cell(1, 0, 0), -11);
            Due.is("missing again", x.sheet(1, -1, n), 1);
        }
        x.sheet(1, 0, 4);
        row(x, 1, 0, 0, 0, 0, 0);
    }

    private static void sheetRefuses() {
        Due.sentence("40: BAD: SHEET, sort, n above 40; -14");
        HighWater x = Bays.full();
        for (int bad : new int[] {-1, 4, MIN, MAX}) {
            Due.is("SHEET", x.sheet(bad, 0, 4), -2);
            Due.is("SHEET, to miss", x.sheet(bad, -1, 4), -2);
            Due.is("SHEET ahead of -14", x.sheet(bad, 0, -1), -2);
        }
        for (int bad : new int[] {-2, 3, MIN, MAX}) {
            Due.is("sort", x.sheet(0, bad, 4), -2);
            Due.is("sort ahead of -14", x.sheet(0, bad, -1), -2);
        }
        for (int sort = 0; sort < 3; sort++) {
            Due.is("n 41", x.sheet(0, sort, 41), -2);
            Due.is("n most", x.sheet(0, sort, MAX), -2);
            Due.is("n -1", x.sheet(0, sort, -1), -14);
            Due.is("n least", x.sheet(0, sort, MIN), -14);
        }
        Due.same("sheet, refused,", x, Bays.full());
    }

    private static void cellPlaces() {
        Due.sentence("41: Number i of a SHEET becomes v: 1");
        HighWater x = new HighWater();
        tell(x, 0, 2, 1, 2, 3, 4, 5, 5);
        tell(x, 3, 2, 1, 1, 1, 1);
        Due.is("the first", x.cell(0, 0, 0), 1);
        Due.is("the last", x.cell(0, 5, 0), 1);
        row(x, 0, 2, 0, 2, 3, 4, 5, 0);
        row(x, 3, 2, 1, 1, 1, 1);
    }

    private static void cellRound() {
        Due.sentence("41: of bytes, shorts its lowest 8, 16 bits");
        int[][] rounds = {{0, 256, -256, 65536, MIN}, {0, 65536, -65536, MIN, 1 << 20}, {0}};
        for (int sort = 0; sort < 3; sort++) {
            for (int round : rounds[sort]) {
                HighWater x = new HighWater();
                tell(x, 0, sort, 5 + round, 99 + round, 9 + round, round);
                row(x, 0, sort, 5, 99, 9, 0);
            }
        }
        // What stays is no number of an ISLAND: above, or below 0.
        int[][] stay = {{100, 127, 128, 255, 65535, MAX}, {256, -256, 32767, 32768, 65535, MAX, 127, 128},
            {256, 65536, 1 << 30, MIN, MAX, -256, -65536}};
        for (int sort = 0; sort < 3; sort++) {
            for (int v : stay[sort]) {
                HighWater x = new HighWater();
                tell(x, 0, sort, 0, v, 0, 0);
                Due.is(v + " of sort " + sort, x.islandsBy(0, sort, 0, 1), 0);
            }
        }
    }

    private static void cellRefuses() {
        Due.sentence("41: BAD: SHEET; -11; -12");
        HighWater x = Bays.full();
        for (int bad : new int[] {-1, 4, MIN, MAX}) {
            Due.is("SHEET", x.cell(bad, 0, 1), -2);
            Due.is("SHEET ahead of -12", x.cell(bad, -1, 1), -2);
        }
        Due.is("missing", x.cell(2, 0, 1), -11);
        Due.is("missing ahead of outside", x.cell(2, -1, 1), -11);
        Due.is("missing ahead of outside", x.cell(2, 40, 1), -11);
        for (int bad : new int[] {-1, 6, 7, 40, MIN, MAX}) {
            Due.is("outside", x.cell(0, bad, 1), -12);
        }
        Due.same("cell, refused,", x, Bays.full());
    }

    private static void copyWhole() {
        Due.sentence("42: n numbers of a SHEET, from i on, come to another one's place j: n");
        HighWater x = new HighWater();
        tell(x, 0, 2, 1, 2, 3, 4, 5);
        tell(x, 1, 2, 0, 0, 0, 0, 0, 0);
        Due.is("none", x.copy(0, 0, 1, 0, 0), 0);
        Due.is("none, from the end", x.copy(0, 5, 1, 6, 0), 0);
        row(x, 1, 2, 0, 0, 0, 0, 0, 0);
        Due.is("one", x.copy(0, 4, 1, 5, 1), 1);
        row(x, 1, 2, 0, 0, 0, 0, 0, 5);
        Due.is("all, to the first place", x.copy(0, 0, 1, 0, 5), 5);
        row(x, 1, 2, 1, 2, 3, 4, 5, 5);
        Due.is("all, to the last places", x.copy(0, 0, 1, 1, 5), 5);
        row(x, 1, 2, 1, 1, 2, 3, 4, 5);
        row(x, 0, 2, 1, 2, 3, 4, 5);
        x.sheet(2, 0, 40);
        x.sheet(3, 0, 40);
        for (int k = 0; k < 40; k++) {
            x.cell(2, k, k % 5);
        }
        Due.is("forty", x.copy(2, 0, 3, 0, 40), 40);
        row(x, 3, 0, 0, 1, 2, 3, 4, 0, 1, 2, 3, 4, 0, 1, 2, 3, 4, 0, 1, 2, 3, 4, 0, 1, 2, 3, 4, 0, 1, 2, 3, 4, 0, 1, 2,
                3, 4, 0, 1, 2, 3, 4);
    }

    private static void copyOwn() {
        Due.sentence("42: (or its own) place j (as they were)");
        HighWater x = new HighWater();
        tell(x, 0, 1, 1, 2, 3, 4, 5);
        Due.is("behind", x.copy(0, 0, 0, 1, 4), 4);
        row(x, 0, 1, 1, 1, 2, 3, 4);
        Due.is("ahead", x.copy(0, 2, 0, 0, 3), 3);
        row(x, 0, 1, 2, 3, 4, 3, 4);
        Due.is("to where they are", x.copy(0, 0, 0, 0, 5), 5);
        row(x, 0, 1, 2, 3, 4, 3, 4);
        Due.is("none to the end", x.copy(0, 5, 0, 5, 0), 0);
        Due.is("one beyond", x.copy(0, 4, 0, 5, 1), -12);
    }

    private static void copySorts() {
        Due.sentence("42: numbers of each sort, from below 0 too");
        for (int sort = 0; sort < 3; sort++) {
            HighWater x = Due.bay(1);
            for (int i = 0; i < 4; i++) {
                x.island(0, 1, 0, 0);
            }
            tell(x, 0, sort, -1, 7, -1, -1, -1);
            tell(x, 1, sort, 7, 7, 7, 7);
            Due.is("copy", x.copy(0, 1, 1, 0, 4), 4);
            Due.is("judge", x.judge(1, 0), 0);
            Due.is("copy", x.copy(0, 0, 1, 0, 1), 1);
            Due.is("judge", x.judge(1, 0), -1);
        }
    }

    private static void copyOutside() {
        Due.sentence("42: -12 (n below 0, too)");
        HighWater x = Bays.full();
        x.sheet(2, 0, 4);
        HighWater y = Bays.full();
        y.sheet(2, 0, 4);
        int[][] outside = {{0, 0, -1}, {0, 0, MIN}, {0, 0, MAX}, {0, 0, 5}, {-1, 0, 1}, {0, -1, 1}, {6, 0, 1}, {5, 0, 2},
            {0, 4, 1}, {0, 3, 2}, {7, 0, 0}, {0, 5, 0}, {-1, 0, 0}, {0, -1, 0}, {MAX, 0, 1}, {0, MAX, 1}, {MAX, 0, MAX},
            {0, MAX, MAX}, {MIN, 0, 1}, {0, MIN, 1}, {MAX, MAX, MIN}, {1, 1, MAX}, {6, 4, 1}, {1, 0, -1}, {6, 4, -1}};
        for (int[] a : outside) {
            Due.is("copy(0, " + a[0] + ", 2, " + a[1] + ", " + a[2] + ")", x.copy(0, a[0], 2, a[1], a[2]), -12);
        }
        Due.same("copy, -12,", x, y);
        HighWater z = Bays.full();
        Due.is("to its own place", z.copy(0, 0, 0, 1, 6), -12);
        Due.is("from its own place", z.copy(0, 1, 0, 0, 6), -12);
        Due.same("copy, -12,", z, Bays.full());
    }

    private static void copyRefuses() {
        Due.sentence("42: BAD: SHEETS; -11; -13: unlike sorts");
        HighWater x = Bays.full();
        for (int bad : new int[] {-1, 4, MIN, MAX}) {
            Due.is("the one", x.copy(bad, 0, 0, 0, 1), -2);
            Due.is("the other one", x.copy(0, 0, bad, 0, 1), -2);
            Due.is("BAD ahead of -11", x.copy(bad, 0, 2, 0, 1), -2);
            Due.is("BAD ahead of -11", x.copy(2, 0, bad, 0, 1), -2);
        }
        Due.is("the one is missing", x.copy(2, 0, 0, 0, 1), -11);
        Due.is("the other one is missing", x.copy(0, 0, 2, 0, 1), -11);
        Due.is("both are", x.copy(2, 0, 2, 0, 1), -11);
        Due.is("-11 ahead of -12", x.copy(0, -1, 2, -1, -1), -11);
        Due.is("bytes to shorts", x.copy(0, 0, 1, 0, 1), -13);
        Due.is("shorts to bytes", x.copy(1, 0, 3, 0, 1), -13);
        Due.is("-13 of none", x.copy(0, 0, 1, 0, 0), -13);
        Due.is("-13 ahead of -12", x.copy(0, -1, 1, 99, -1), -13);
        Due.same("copy, refused,", x, Bays.full());
    }

    private static void islandsByPlaces() {
        Due.sentence("43: from a place on, four by four (as of island()), n of them (0 .. 6): how many came");
        HighWater x = new HighWater();
        x.sheet(0, 1, 28);
        int[] told = {5, 99, 9, 9};
        for (int k = 0; k < 24; k++) {
            x.cell(0, 3 + k, k % 4 == 1 ? 90 + k / 4 : told[k % 4]);
        }
        Due.is("none", x.islandsBy(0, 1, 3, 0), 0);
        Due.is("count(0)", x.count(0), 0);
        x.image();
        Due.is("one", x.islandsBy(0, 1, 23, 1), 1);
        Due.is("its TOLD", x.told(0, 1), 95);
        x.back();
        Due.is("six", x.islandsBy(0, 1, 3, 6), 6);
        for (int k = 0; k < 24; k++) {
            Due.is("told", x.told(k / 4, k % 4), k % 4 == 1 ? 90 + k / 4 : told[k % 4]);
        }
        x.back();
        Due.is("the last four", x.islandsBy(0, 1, 24, 1), 0);
        Due.is("of none any place will do", x.islandsBy(0, 1, 29, 0), 0);
        Due.is("of none any place will do", x.islandsBy(0, 1, -1, 0), 0);
        x.sheet(0, 1, 0);
        Due.is("none of no row", x.islandsBy(0, 1, 0, 0), 0);
        Due.is("one of no row", x.islandsBy(0, 1, 0, 1), -12);
    }

    private static void islandsByLeftOut() {
        Due.sentence("43: how many came (others are left out)");
        HighWater x = new HighWater();
        tell(x, 0, 2, 6, 0, 0, 0, 1, 11, 0, 0, 0, 100, 0, 0, 2, 12, 0, 0, 0, 0, 10, 0, 0, 0, 0, 10);
        Due.is("two of six", x.islandsBy(0, 2, 0, 6), 2);
        Due.is("the first", x.told(0, 1), 11);
        Due.is("the second", x.told(1, 1), 12);
        Due.is("no third", x.told(2, 1), -5);
        for (int k = 0; k < 3; k++) {
            Due.is("one more has room", x.islandsBy(0, 2, 4, 1), 1);
        }
        Due.is("count(0)", x.count(0), 5);
        Due.is("one has room", x.islandsBy(0, 2, 4, 3), 1);
        Due.is("none has room", x.islandsBy(0, 2, 4, 3), 0);
        Due.is("count(0)", x.count(0), 6);
        tell(x, 1, 0, -1, -1, -1, -1);
        Due.is("none", x.islandsBy(1, 0, 0, 1), 0);
    }

    private static void islandsByOutside() {
        Due.sentence("43: -12: what stood ahead came");
        HighWater x = new HighWater();
        tell(x, 0, 0, 1, 11, 0, 0, 2, 12, 0, 0, 3, 9, 0);
        Due.is("the third has no four", x.islandsBy(0, 0, 0, 3), -12);
        Due.is("two came", x.count(0), 2);
        Due.is("the second", x.told(1, 1), 12);
        Due.is("the first has no four", x.islandsBy(0, 0, 8, 1), -12);
        Due.is("1 too far", x.islandsBy(0, 0, 11, 1), -12);
        Due.is("no place", x.islandsBy(0, 0, 12, 6), -12);
        Due.is("none came", x.count(0), 2);
        for (int bad : new int[] {-1, -4, MIN, MAX, MAX - 3, MAX - 23}) {
            Due.is("from " + bad, x.islandsBy(0, 0, bad, 6), -12);
        }
        Due.is("none came", x.count(0), 2);
        Due.is("the last four", x.islandsBy(0, 0, 7, 1), 1);
        Due.is("TOLD 3", x.told(2, 1), 3);
        HighWater full = Bays.full();
        Due.is("six there", full.islandsBy(0, 0, 0, 2), -12);
        Due.same("islandsBy of no room", full, Bays.full());
    }

    private static void islandsByRefuses() {
        Due.sentence("43: BAD: SHEET, sort, n; -11; -13");
        HighWater x = Bays.half();
        for (int bad : new int[] {-1, 4, MIN, MAX}) {
            Due.is("SHEET", x.islandsBy(bad, 2, 0, 1), -2);
        }
        for (int bad : new int[] {-1, 3, MIN, MAX}) {
            Due.is("sort", x.islandsBy(2, bad, 0, 1), -2);
            Due.is("sort ahead of -11", x.islandsBy(1, bad, 0, 1), -2);
        }
        for (int bad : new int[] {-1, 7, MIN, MAX}) {
            Due.is("n", x.islandsBy(2, 2, 0, bad), -2);
            Due.is("n ahead of -11", x.islandsBy(1, 2, 0, bad), -2);
            Due.is("n ahead of -13", x.islandsBy(2, 0, 0, bad), -2);
        }
        Due.is("missing", x.islandsBy(1, 2, 0, 1), -11);
        Due.is("-11 ahead of -12", x.islandsBy(1, 0, -1, 1), -11);
        Due.is("unlike", x.islandsBy(2, 0, 0, 1), -13);
        Due.is("unlike", x.islandsBy(2, 1, 0, 0), -13);
        Due.is("-13 ahead of -12", x.islandsBy(2, 1, -1, 1), -13);
        Due.same("islandsBy, refused,", x, Bays.half());
    }

    private static void takenTides() {
        Due.sentence("44: 0 .. 11 TIDES that are above 0 HIGH; 6 a TIDE: how HIGH");
        HighWater x = new HighWater();
        for (int t = 0; t < 12; t++) {
            Due.is("at first", x.taken(t, 6), 5);
            x.tide(t, 1);
            Due.is("1 HIGH", x.taken(t, 6), 1);
            x.tide(t, 9);
            Due.is("9 HIGH", x.taken(t, 6), 9);
            x.tide(t, 0);
            Due.is("0 HIGH", x.taken(t, 6), -11);
        }
    }

    private static void takenIslands() {
        Due.sentence("44: 12 .. 17 ISLANDS, taken for an ISLAND of that KIND (also of one that is one): its number");
        // Of each KIND the KINDS that it is.
        int[][] is = {{0}, {0, 1}, {0, 2}, {0, 1, 3}, {0, 2, 4}, {0, 5}};
        for (int kind = 0; kind < 6; kind++) {
            HighWater x = new HighWater();
            for (int i = 0; i < 6; i++) {
                x.island(kind, 0, 0, 0);
                for (int asked = 0; asked < 6; asked++) {
                    boolean isOne = false;
                    for (int each : is[kind]) {
                        isOne |= each == asked;
                    }
                    Due.is("KIND " + kind + " for " + asked, x.taken(12 + i, asked), isOne ? i : -13);
                }
            }
        }
    }

    private static void takenNothing() {
        Due.sentence("44: -11: nothing lies there (ahead of -13)");
        HighWater x = new HighWater();
        x.island(0, 0, 0, 0);
        x.tide(0, 0);
        x.tide(11, 0);
        for (int kind = 0; kind < 7; kind++) {
            Due.is("a TIDE 0 HIGH", x.taken(0, kind), -11);
            Due.is("a TIDE 0 HIGH", x.taken(11, kind), -11);
            for (int i = 13; i < 18; i++) {
                Due.is("no ISLAND", x.taken(i, kind), -11);
            }
        }
        x.image();
        x.island(1, 0, 0, 0);
        Due.is("an ISLAND", x.taken(13, 1), 1);
        x.back();
        Due.is("none any more", x.taken(13, 1), -11);
    }

    private static void takenRefuses() {
        Due.sentence("44: BAD: kind; -12: i; -11; -13");
        HighWater x = Bays.half();
        x.tide(1, 0);
        for (int bad : new int[] {-1, 7, MIN, MAX}) {
            Due.is("kind", x.taken(12, bad), -2);
            Due.is("BAD ahead of -12", x.taken(18, bad), -2);
            Due.is("BAD ahead of -12", x.taken(-1, bad), -2);
            Due.is("BAD ahead of -11", x.taken(1, bad), -2);
            Due.is("BAD ahead of -11", x.taken(15, bad), -2);
        }
        for (int bad : new int[] {-1, 18, MIN, MAX}) {
            for (int kind = 0; kind < 7; kind++) {
                Due.is("outside", x.taken(bad, kind), -12);
            }
        }
        for (int kind = 0; kind < 6; kind++) {
            Due.is("a TIDE for an ISLAND", x.taken(0, kind), -13);
        }
        for (int i = 12; i < 15; i++) {
            Due.is("an ISLAND for a TIDE", x.taken(i, 6), -13);
        }
    }
}
