/** Bays of which much can be told, each made anew the same way. */
final class Bays {
    private Bays() {
    }

    private static void row(HighWater x, int s, int sort, int n) {
        x.sheet(s, sort, n);
        for (int i = 0; i < n; i++) {
            x.cell(s, i, (i * i + s) % 5);
        }
    }

    /** Everybody and all ISLANDS have come, THE TAPE has the head of a TEXT, of THE IMAGE most is otherwise. */
    static HighWater full() {
        HighWater x = new HighWater();
        x.come();
        x.island(3, 44, 3, 2);
        x.go(0, 7, 0);
        x.tide(7, 2);
        x.image();
        for (int p = 1; p < 4; p++) {
            x.come();
            x.go(p, 0, 0);
        }
        for (int i = 1; i < 6; i++) {
            x.island(i, 40 + i, 9 - i, i);
            x.go(i % 4, i, i);
        }
        x.tide(0, 9);
        x.tide(7, 0);
        Due.text(x, "worth told*2;costs far+1;storm 9;");
        Due.text(x, "worth 7;costs 8;storm number;");
        x.force(1);
        row(x, 0, 0, 6);
        row(x, 1, 1, 12);
        row(x, 3, 0, 7);
        Due.feed(x, "worth 3*");
        return x;
    }

    /** Room for all, and no image. */
    static HighWater half() {
        HighWater x = Due.bay(2);
        for (int i = 0; i < 3; i++) {
            x.island(5 - i, 30 + i, 5 + i, i);
            x.go(i % 2, 2 + i, i);
        }
        row(x, 0, 2, 3);
        row(x, 2, 2, 5);
        row(x, 3, 1, 4);
        x.tide(3, 4);
        return x;
    }

    /** No room for TEXTS; no ISLANDS, as in THE IMAGE. */
    static HighWater allTexts() {
        HighWater x = new HighWater();
        x.image();
        x.come();
        for (int k = 1; k < 6; k++) {
            Due.text(x, "worth " + k + ";costs 1;storm 2;");
        }
        row(x, 0, 2, 0);
        row(x, 2, 0, 40);
        Due.feed(x, "abc");
        x.force(5);
        return x;
    }
}
