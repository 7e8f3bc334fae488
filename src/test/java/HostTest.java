/** Promises 40 to 44. */
public final class HostTest {
    public static void main(String[] args) {
        sheet();
        zeros();
        cell();
        copy();
        copyRefuses();
        islandsBy();
        islandsByRefuses();
        taken();
        Due.end();
    }

    private static void sheet() {
        HighWater x = new HighWater();
        for (int s : new int[] {-1, 4, Integer.MIN_VALUE}) {
            Due.is("sheet " + s, x.sheet(s, 0, 1), -2);
            Due.is("sheet missing " + s, x.sheet(s, -1, 1), -2);
        }
        Due.is("sort 3", x.sheet(0, 3, 1), -2);
        Due.is("sort -2", x.sheet(0, -2, 1), -2);
        Due.is("sort 3, below 0", x.sheet(0, 3, -1), -2);
        Due.is("41", x.sheet(0, 0, 41), -2);
        Due.is("-1", x.sheet(0, 0, -1), -14);
        Due.is("min", x.sheet(0, 2, Integer.MIN_VALUE), -14);
        Due.is("still missing", x.cell(0, 0, 0), -11);
        for (int sort = 0; sort < 3; sort++) {
            Due.is("40", x.sheet(sort, sort, 40), 1);
            Due.is("cell 39", x.cell(sort, 39, 1), 1);
            Due.is("cell 40", x.cell(sort, 40, 1), -12);
            Due.is("0", x.sheet(sort, sort, 0), 1);
            Due.is("cell 0", x.cell(sort, 0, 1), -12);
        }
        Due.is("41", x.sheet(0, 0, 41), -2);
        Due.is("-1", x.sheet(0, 0, -1), -14);
        Due.is("refusals change nothing", x.cell(0, 0, 1), -12);
        Due.is("missing", x.sheet(0, -1, 41), 1);
        Due.is("missing", x.cell(0, 0, 1), -11);
        Due.is("missing again", x.sheet(0, -1, -1), 1);
        // All are 0, in a row made anew too.
        for (int i = 0; i < 3; i++) {
            x.island(0, 0, 0, 0);
        }
        for (int p = 0; p < 2; p++) {
            x.come();
        }
        for (int i = 0; i < 3; i++) {
            x.sheet(1, 2, 3);
            Due.is("0", x.judge(1, 0), 0);
            x.cell(1, 0, -1);
            x.cell(1, 1, -1);
            Due.is("0", x.judge(1, 0), 2);
            x.cell(1, 2, -1);
            Due.is("-1", x.judge(1, 0), -1);
        }
    }

    /** A row made anew, of any sort, is all 0: so are the ISLANDS of it. */
    private static void zeros() {
        HighWater x = new HighWater();
        for (int sort = 0; sort < 3; sort++) {
            tell(x, 0, 2 - sort, 1, 1, 1, 1, 1, 1, 1, 1);
            x.sheet(0, sort, 4);
            Due.is("one of zeros", x.islandsBy(0, sort, 0, 1), 1);
            for (int what = 0; what < 4; what++) {
                Due.is("zero", x.told(sort, what), 0);
            }
        }
        tell(x, 1, 2, 1, 1, 1, 1);
        x.sheet(1, -1, 0);
        x.sheet(1, 2, 4);
        x.islandsBy(1, 2, 0, 1);
        Due.is("zero behind missing", x.told(3, 1), 0);
    }

    private static void cell() {
        HighWater x = new HighWater();
        Due.is("cell of sheet 4", x.cell(4, 0, 0), -2);
        Due.is("cell of sheet -1", x.cell(-1, 0, 0), -2);
        Due.is("missing", x.cell(0, -1, 0), -11);
        x.sheet(0, 0, 5);
        Due.is("cell -1", x.cell(0, -1, 0), -12);
        Due.is("cell 5", x.cell(0, 5, 0), -12);
        Due.is("cell max", x.cell(0, Integer.MAX_VALUE, 0), -12);
        Due.is("cell min", x.cell(0, Integer.MIN_VALUE, 0), -12);
        for (int i = 0; i < 5; i++) {
            Due.is("cell", x.cell(0, i, Integer.MIN_VALUE), 1);
        }
        // What a row keeps of numbers is seen by ISLANDS that come of it.
        int[] values = {77, 77 + 256, 77 + 65536, 77 - 256, 77 + (1 << 31)};
        for (int sort = 0; sort < 3; sort++) {
            for (int k = 0; k < values.length; k++) {
                HighWater y = new HighWater();
                y.sheet(2, sort, 4);
                y.cell(2, 1, values[k]);
                boolean stays = k == 0 || sort == 0 || sort == 1 && (k == 2 || k == 4);
                Due.is("sort " + sort + " of " + values[k], y.islandsBy(2, sort, 0, 1), stays ? 1 : 0);
                Due.is("told", y.told(0, 1), stays ? 77 : -5);
            }
        }
    }

    /** ISLANDS of a row of four, TOLD as much as it says. */
    private static int told(HighWater x, int s, int sort, int i) {
        int had = x.count(0);
        int came = x.islandsBy(s, sort, i, 1);
        return came == 1 ? x.told(had, 1) : came;
    }

    private static void tell(HighWater x, int s, int sort, int... values) {
        x.sheet(s, sort, values.length);
        for (int i = 0; i < values.length; i++) {
            x.cell(s, i, values[i]);
        }
    }

    private static void rowIs(HighWater x, int s, int... due) {
        // Owners can tell a row's numbers: as many ISLANDS as it has are judged; the first otherwise moves on.
        for (int i = 0; i < due.length; i++) {
            Due.is("row " + s + " at " + i, cellOf(x, s, i), due[i]);
        }
    }

    /** Number i (0 .. 5) of a row of ints, by ISLANDS: it is copied to where they are TOLD. */
    private static int cellOf(HighWater x, int s, int i) {
        x.image();
        x.sheet(3, 2, 4);
        Due.is("copy of one", x.copy(s, i, 3, 1, 1), 1);
        int told = told(x, 3, 2, 0);
        x.back();
        return told;
    }

    private static void copy() {
        HighWater x = new HighWater();
        tell(x, 0, 2, 10, 11, 12, 13, 14);
        tell(x, 1, 2, 20, 21, 22);
        Due.is("copy", x.copy(0, 1, 1, 0, 2), 2);
        rowIs(x, 1, 11, 12, 22);
        rowIs(x, 0, 10, 11, 12, 13, 14);
        Due.is("copy all", x.copy(1, 0, 0, 2, 3), 3);
        rowIs(x, 0, 10, 11, 11, 12, 22);
        tell(x, 0, 2, 10, 11, 12, 13, 14);
        Due.is("to its own, behind", x.copy(0, 0, 0, 1, 4), 4);
        rowIs(x, 0, 10, 10, 11, 12, 13);
        tell(x, 0, 2, 10, 11, 12, 13, 14);
        Due.is("to its own, ahead", x.copy(0, 1, 0, 0, 4), 4);
        rowIs(x, 0, 11, 12, 13, 14, 14);
        Due.is("none", x.copy(0, 0, 1, 0, 0), 0);
        Due.is("none behind the last", x.copy(0, 5, 1, 3, 0), 0);
        rowIs(x, 1, 11, 12, 22);
        tell(x, 0, 0, 1, 2, 3);
        tell(x, 1, 0, 0, 0, 0, 0);
        Due.is("bytes", x.copy(0, 0, 1, 1, 3), 3);
        Due.is("told", told(x, 1, 0, 0), 1);
        tell(x, 0, 1, 1, 2, 3);
        tell(x, 1, 1, 0, 0, 0, 0);
        Due.is("shorts", x.copy(0, 1, 1, 1, 2), 2);
        Due.is("told", told(x, 1, 1, 0), 2);
    }

    private static void copyRefuses() {
        HighWater x = new HighWater();
        tell(x, 0, 2, 10, 11, 12, 13, 14);
        tell(x, 1, 2, 20, 21, 22);
        tell(x, 2, 1, 20, 21, 22);
        Due.is("sheet 4", x.copy(4, 9, 3, 9, 9), -2);
        Due.is("sheet 4", x.copy(3, 9, 4, 9, 9), -2);
        Due.is("sheet -1", x.copy(-1, 0, 0, 0, 0), -2);
        Due.is("sheet -1", x.copy(0, 0, -1, 0, 0), -2);
        Due.is("missing", x.copy(3, 9, 2, 9, 9), -11);
        Due.is("missing", x.copy(0, 9, 3, 9, 9), -11);
        Due.is("unlike", x.copy(0, 9, 2, 9, 9), -13);
        Due.is("n -1", x.copy(0, 0, 1, 0, -1), -12);
        Due.is("n min", x.copy(0, 0, 1, 0, Integer.MIN_VALUE), -12);
        Due.is("n max", x.copy(0, 1, 1, 1, Integer.MAX_VALUE), -12);
        Due.is("i -1", x.copy(0, -1, 1, 0, 1), -12);
        Due.is("j -1", x.copy(0, 0, 1, -1, 1), -12);
        Due.is("i + n", x.copy(0, 3, 1, 0, 3), -12);
        Due.is("j + n", x.copy(0, 0, 1, 1, 3), -12);
        Due.is("i max", x.copy(0, Integer.MAX_VALUE, 1, 0, 1), -12);
        Due.is("j max", x.copy(0, 0, 1, Integer.MAX_VALUE, 1), -12);
        Due.is("none from outside", x.copy(0, 6, 1, 0, 0), -12);
        Due.is("none to outside", x.copy(0, 0, 1, 4, 0), -12);
        rowIs(x, 1, 20, 21, 22);
        rowIs(x, 0, 10, 11, 12, 13, 14);
    }

    private static void islandsBy() {
        HighWater x = new HighWater();
        tell(x, 0, 1, 9, 4, 50, 6, 7, 0, 100, 0, 0, 5, 1, 2, 3, 0);
        Due.is("two of three", x.islandsBy(0, 1, 1, 3), 2);
        Due.is("count(0)", x.count(0), 2);
        int[] due = {4, 50, 6, 7, 5, 1, 2, 3};
        for (int k = 0; k < 8; k++) {
            Due.is("told", x.told(k / 4, k % 4), due[k]);
        }
        Due.is("outside the third", x.islandsBy(0, 1, 5, 3), -12);
        Due.is("what stood ahead came", x.count(0), 3);
        Due.is("told", x.told(2, 0), 5);
        Due.is("none", x.islandsBy(0, 1, 0, 0), 0);
        Due.is("none of outside", x.islandsBy(0, 1, 99, 0), 0);
        tell(x, 3, 0, new int[24]);
        Due.is("three have room", x.islandsBy(3, 0, 0, 6), 3);
        Due.is("none has room", x.islandsBy(3, 0, 0, 6), 0);
        Due.is("outside ahead of room", x.islandsBy(3, 0, 4, 6), -12);
        HighWater y = new HighWater();
        tell(y, 3, 0, new int[24]);
        Due.is("six", y.islandsBy(3, 0, 0, 6), 6);
        HighWater z = new HighWater();
        tell(z, 3, 0, new int[24]);
        Due.is("five and one outside", z.islandsBy(3, 0, 1, 6), -12);
        Due.is("five came", z.count(0), 5);
    }

    private static void islandsByRefuses() {
        HighWater x = new HighWater();
        tell(x, 0, 1, 0, 1, 2, 3, 4);
        Due.is("sheet 4", x.islandsBy(4, 1, 0, 1), -2);
        Due.is("sheet -1", x.islandsBy(-1, 1, 0, 1), -2);
        Due.is("sort 3", x.islandsBy(0, 3, 0, 1), -2);
        Due.is("sort -1", x.islandsBy(0, -1, 0, 1), -2);
        Due.is("n 7", x.islandsBy(0, 1, 0, 7), -2);
        Due.is("n -1", x.islandsBy(0, 1, 0, -1), -2);
        Due.is("n 7 of a missing one", x.islandsBy(1, 1, 0, 7), -2);
        Due.is("missing", x.islandsBy(1, 0, 0, 1), -11);
        Due.is("unlike", x.islandsBy(0, 0, 0, 1), -13);
        Due.is("unlike", x.islandsBy(0, 2, 99, 0), -13);
        Due.is("at -1", x.islandsBy(0, 1, -1, 1), -12);
        Due.is("at -4", x.islandsBy(0, 1, -4, 2), -12);
        Due.is("at 2", x.islandsBy(0, 1, 2, 1), -12);
        Due.is("at max", x.islandsBy(0, 1, Integer.MAX_VALUE, 6), -12);
        Due.is("at min", x.islandsBy(0, 1, Integer.MIN_VALUE, 6), -12);
        Due.is("none came", x.count(0), 0);
        Due.is("at 1", x.islandsBy(0, 1, 1, 1), 1);
        Due.is("told", x.told(0, 1), 2);
    }

    private static void taken() {
        HighWater x = new HighWater();
        for (int i = 0; i < 6; i++) {
            x.island(i, 1, 1, 1);
        }
        x.tide(4, 0);
        x.tide(11, 9);
        // By KIND of the ISLAND: what it is, as bits.
        int[] is = {1, 1 + 2, 1 + 4, 1 + 2 + 8, 1 + 4 + 16, 1 + 32};
        for (int i = 0; i < 6; i++) {
            for (int kind = 0; kind < 6; kind++) {
                Due.is("island " + i + " for " + kind, x.taken(12 + i, kind), (is[i] >> kind & 1) == 1 ? i : -13);
            }
            Due.is("island for a tide", x.taken(12 + i, 6), -13);
        }
        for (int t = 0; t < 12; t++) {
            int there = t == 4 ? -11 : t == 11 ? 9 : 5;
            Due.is("tide " + t, x.taken(t, 6), there);
            for (int kind = 0; kind < 6; kind++) {
                Due.is("tide for an island", x.taken(t, kind), t == 4 ? -11 : -13);
            }
        }
        Due.is("kind 7", x.taken(0, 7), -2);
        Due.is("kind -1", x.taken(0, -1), -2);
        Due.is("kind 7 outside", x.taken(18, 7), -2);
        Due.is("outside", x.taken(18, 0), -12);
        Due.is("outside", x.taken(-1, 6), -12);
        Due.is("outside", x.taken(Integer.MAX_VALUE, 6), -12);
        HighWater y = new HighWater();
        y.island(3, 0, 0, 0);
        for (int i = 13; i < 18; i++) {
            for (int kind = 0; kind < 7; kind++) {
                Due.is("nothing there", y.taken(i, kind), -11);
            }
        }
        Due.is("number 0", y.taken(12, 1), 0);
    }
}
