import java.util.List;

/** Counts and tells the answers that are not the ones due; helps tests to feed texts. */
final class Due {
    private static int wrong = 0;
    private static int asked = 0;
    private static String sentence = "";

    private Due() {
    }

    /** The document's words that the answers from now on are held to. */
    static void sentence(String words) {
        sentence = "[" + words + "] ";
    }

    static void is(String call, long got, long want) {
        asked++;
        if (got != want) {
            wrong++;
            System.out.println(sentence + call + " answered " + got + ", due is " + want);
        }
    }

    /** Two objects keep the same: the one had a call that may change nothing, the other one had not. Both are used up. */
    static void same(String call, HighWater x, HighWater y) {
        List<String> got = Kept.of(x);
        List<String> want = Kept.of(y);
        asked++;
        if (!got.equals(want)) {
            wrong++;
            int k = 0;
            while (k < got.size() && k < want.size() && got.get(k).equals(want.get(k))) {
                k++;
            }
            System.out.println(sentence + "behind " + call + " there is " + (k < got.size() ? got.get(k) : "less")
                    + ", due is " + (k < want.size() ? want.get(k) : "no more"));
        }
    }

    static void isTrue(String what, boolean got) {
        is(what, got ? 1 : 0, 1);
    }

    static void end() {
        System.out.println(wrong == 0 ? asked + " answers as due" : wrong + " of " + asked + " answers not as due");
        if (wrong != 0) {
            System.exit(1);
        }
    }

    /** Feeds a text's bytes, as many at a time as one call takes. */
    static void feed(HighWater x, String text) {
        int had = x.count(4);
        for (int k = 0; k < text.length(); k += 5) {
            int n = Math.min(5, text.length() - k);
            is("feed from byte " + k, x.feed(n, byteAt(text, k), byteAt(text, k + 1), byteAt(text, k + 2),
                    byteAt(text, k + 3), byteAt(text, k + 4)), had + k + n);
        }
    }

    private static int byteAt(String text, int k) {
        return k < text.length() ? text.charAt(k) : 0;
    }

    static int text(HighWater x, String text) {
        feed(x, text);
        return x.text();
    }

    /** Makes a text THE LAW. */
    static void law(HighWater x, String text) {
        int number = text(x, text);
        isTrue("text " + text + " (" + number + ")", number >= 0);
        isTrue("force", x.force(number) >= 0);
    }

    /** A bay of this many people. */
    static HighWater bay(int people) {
        HighWater x = new HighWater();
        for (int p = 0; p < people; p++) {
            is("come", x.come(), p);
        }
        return x;
    }

    /** A bay of 0 ISLAND 20, 1 ISLAND 30, 2 LOW 40 (under water at 5), 3 BARRED 10 (one with 0 below 6). */
    static HighWater four(int people) {
        HighWater x = bay(people);
        x.island(0, 20, 0, 0);
        x.island(0, 30, 0, 0);
        x.island(2, 40, 4, 0);
        x.island(5, 10, 6, 0);
        return x;
    }
}
