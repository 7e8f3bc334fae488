import java.util.ArrayList;
import java.util.List;

/**
 * All that an object keeps, told by its own answers: what is asked of it at once, its TEXTS and THE TAPE, what lies
 * in THE IMAGE, its SHEETS number for number. Telling it changes the object, which is of no further use. Numbers of
 * SHEETS are told where ISLANDS can come of them (0 .. 5 is best).
 */
final class Kept {
    private static final int MISSING = -1;

    private final HighWater x;
    private final List<String> all = new ArrayList<>();

    private Kept(HighWater x) {
        this.x = x;
    }

    static List<String> of(HighWater x) {
        Kept kept = new Kept(x);
        kept.bay("");
        kept.texts();
        kept.tape();
        kept.note("back()", x.back());
        kept.bay("in the image, ");
        kept.sheets();
        return kept.all;
    }

    private void note(String call, long answer) {
        all.add(call + " " + answer);
    }

    private void bay(String where) {
        for (int what = 0; what < 5; what++) {
            note(where + "count(" + what + ")", x.count(what));
        }
        for (int t = 0; t < 12; t++) {
            note(where + "height(" + t + ")", x.height(t));
            for (int p = 0; p < x.count(1); p++) {
                note(where + "at(" + p + ", " + t + ")", x.at(p, t));
            }
        }
        for (int i = 0; i < x.count(0); i++) {
            for (int what = 0; what < 4; what++) {
                note(where + "told(" + i + ", " + what + ")", x.told(i, what));
            }
        }
    }

    private void texts() {
        int law = x.count(3);
        for (int k = 0; k < x.count(2); k++) {
            x.force(k);
            says("text " + k);
        }
        x.force(law);
    }

    private void says(String which) {
        for (int part = 0; part < 3; part++) {
            note(which + " asks(" + part + ")", x.asks(part, 61, 53, 4, 72));
        }
    }

    /** What is on THE TAPE shows when it goes on. */
    private void tape() {
        Due.feed(x, x.count(4) > 130 ? "" : "+more;costs 4;storm far;");
        int text = x.text();
        note("text()", text);
        if (text >= 0) {
            x.force(text);
            says("the tape");
        }
    }

    private void sheets() {
        // The last one first: the others may need it.
        for (int s = 3; s >= 0; s--) {
            int sort = sortOf(s);
            note("sort of sheet " + s, sort);
            if (sort != MISSING) {
                int size = sizeOf(s);
                note("size of sheet " + s, size);
                cells(s, sort, size);
            }
        }
    }

    private int sortOf(int s) {
        for (int sort = 0; sort < 3; sort++) {
            if (x.islandsBy(s, sort, 0, 0) == 0) {
                return sort;
            }
        }
        return MISSING;
    }

    private int sizeOf(int s) {
        int size = 0;
        while (size < 40 && x.copy(s, size + 1, s, 0, 0) == 0) {
            size++;
        }
        return size;
    }

    private void cells(int s, int sort, int size) {
        if (size < 4 && s < 3) {
            x.sheet(3, sort, 4);
            x.copy(s, 0, 3, 0, size);
            four(3, sort, 0, "sheet " + s);
            return;
        }
        for (int from = 0; from + 4 <= size; from += 4) {
            four(s, sort, from, "sheet " + s);
        }
        if (size > 4 && size % 4 != 0) {
            four(s, sort, size - 4, "sheet " + s);
        }
    }

    private void four(int s, int sort, int from, String which) {
        if (x.count(0) == 6) {
            x.back();
        }
        int i = x.count(0);
        note(which + " from " + from, x.islandsBy(s, sort, from, 1));
        for (int what = 0; what < 4; what++) {
            note(which + " at " + (from + what), x.told(i, what));
        }
    }
}
