/** Counts and tells the answers that are not the ones due; helps tests to feed texts. */
final class Due {
    private static int wrong = 0;
    private static int asked = 0;

    private Due() {
    }

    static void is(String call, long got, long want) {
        asked++;
        if (got != want) {
            wrong++;
            System.out.println(call + " answered " + got + ", due is " + want);
        }
    }

    static void isTrue(String what, boolean got) {
        is(what, got ? 1 : 0, 1);
    }

    static void end() {
        System.out.println(wrong == 0 ? asked + " answers as due" : wrong + " of " + asked + " answers not as due");
        if (wrong != 0) {
            System.exit(1);
        }
    }

    /** Feeds a text's bytes, one by one. */
    static void feed(HighWater x, String text) {
        for (int k = 0; k < text.length(); k++) {
            int had = x.count(4);
            is("feed of byte " + k, x.feed(1, text.charAt(k), 0, 0, 0, 0), had + 1);
        }
    }

    static int text(HighWater x, String text) {
        feed(x, text);
        return x.text();
    }

    /** Makes a text THE LAW. */
    static void law(HighWater x, String text) {
        int number = text(x, text);
        isTrue("text " + text + " (" + number + ")", number >= 0);
        isTrue("force", x.force(number) >= 0);
    }

    /** A bay of this many people. */
    static HighWater bay(int people) {
        HighWater x = new HighWater();
        for (int p = 0; p < people; p++) {
            is("come", x.come(), p);
        }
        return x;
    }

    /** A bay of 0 ISLAND 20, 1 ISLAND 30, 2 LOW 40 (under water at 5), 3 BARRED 10 (one with 0 below 6). */
    static HighWater four(int people) {
        HighWater x = bay(people);
        x.island(0, 20, 0, 0);
        x.island(0, 30, 0, 0);
        x.island(2, 40, 4, 0);
        x.island(5, 10, 6, 0);
        return x;
    }
}
