/** Promises 24 to 26. */
public final class FamilyTest {
    public static void main(String[] args) {
        family();
        spoil();
        ransom();
        Due.end();
    }

    private static void family(HighWater x, int set, int t, int much, int digits) {
        Due.is("family " + set + " at " + t, x.family(set, t, 0), much);
        Due.is("its digits", x.family(set, t, 1), digits);
    }

    private static void family() {
        HighWater x = Due.four(3);
        family(x, 0, 0, 0, 0);
        family(x, 1, 0, 29, 1);
        family(x, 2, 0, 29, 1);
        family(x, 4, 0, 29, 1);
        // 0 for one, 1 for another; the third one stays on the shore, who is the first.
        family(x, 3, 0, 29 + 28, 12);
        family(x, 5, 0, 29 + 28, 12);
        family(x, 7, 0, 29 + 28, 12);
        // The others are where they are.
        x.go(1, 0, 3);
        family(x, 1, 0, 28, 2);
        family(x, 5, 0, 28, 2);
        family(x, 2, 0, 29, 1);
        Due.is("it changes nothing", x.at(1, 0), 3);
        Due.is("it changes nothing", x.at(0, 0), -1);
        // All that is above water apart: 20-1, 30-2, 10-4 at 6, and at 4 0 with 3 30-1, 30-2, 40-3.
        x.tide(0, 6);
        family(x, 7, 0, 19 + 28 + 6, 124);
        x.tide(0, 4);
        family(x, 7, 0, 29 + 28 + 37, 123);
        Due.is("no such people", x.family(8, 0, 0), -5);
        Due.is("no such people", x.family(-1, 0, 0), -5);
        Due.is("no such people", x.family(Integer.MIN_VALUE, 0, 0), -5);
        Due.is("tide 12", x.family(1, 12, 0), -5);
        Due.is("tide -1", x.family(1, -1, 2), -5);
        Due.is("what 2", x.family(1, 0, 2), -7);
        Due.is("what -1", x.family(1, 0, -1), -7);
        Due.is("-5 ahead of -7", x.family(8, 0, 2), -5);
        // By costs of each: from 3 one stays on it, though another one is nearer to 0.
        HighWater y = Due.four(2);
        y.go(1, 0, 3);
        family(y, 3, 1, 30 + 28, 24);
        // Where those of the set are is all the same: of like ones the first.
        HighWater z = Due.four(3);
        z.go(0, 0, 1);
        z.go(1, 0, 3);
        z.go(2, 0, 2);
        family(z, 7, 0, 29 + 28, 12);
        family(z, 3, 0, 29 + 28, 12);
        // The last of all WAYS.
        HighWater last = Due.bay(2);
        last.island(0, 10, 0, 0);
        last.island(0, 50, 0, 0);
        family(last, 1, 0, 48, 2);
        family(last, 2, 0, 48, 2);
        last.go(0, 0, 0);
        family(last, 2, 0, 48, 2);
        family(new HighWater(), 0, 0, 0, 0);
        Due.is("nobody's set", new HighWater().family(1, 0, 0), -5);
    }

    private static void spoil(HighWater x, int p, int t, int place, int much) {
        Due.is("spoil place of " + p, x.spoil(p, t, 0), place);
        Due.is("spoil gain of " + p, x.spoil(p, t, 1), much);
    }

    private static void spoil() {
        HighWater x = Due.four(3);
        spoil(x, 0, 0, -1, 0);
        x.go(1, 0, 0);
        // 30 (with 3): spoiled on 0, or on 3.
        spoil(x, 0, 0, 0, 0);
        x.go(2, 0, 1);
        // 30 and 30: alike, so the first.
        spoil(x, 0, 0, 0, 30);
        x.tide(0, 6);
        // 20 and 30.
        spoil(x, 0, 0, 1, 20);
        x.go(2, 0, 0);
        // The two are on one: nothing to spoil.
        spoil(x, 0, 0, -1, 0);
        x.go(2, 0, 2);
        // Under water.
        spoil(x, 0, 0, 0, 0);
        Due.is("it changes nothing", x.at(0, 0), -1);
        x.go(0, 0, 0);
        spoil(x, 0, 0, 0, 0);
        Due.is("it changes nothing", x.at(0, 0), 0);
        // The last one spoils it for the first ones.
        HighWater y = Due.four(3);
        y.go(0, 0, 1);
        spoil(y, 2, 0, 1, 0);
        y.go(1, 0, 0);
        y.tide(0, 6);
        spoil(y, 2, 0, 1, 20);
        Due.is("what 2", x.spoil(0, 0, 2), -7);
        Due.is("what -1", x.spoil(0, 0, -1), -7);
        Due.is("nobody", x.spoil(3, 0, 0), -5);
        Due.is("nobody", x.spoil(-1, 0, 2), -5);
        Due.is("tide 12", x.spoil(0, 12, 0), -5);
        Due.is("tide -1", x.spoil(0, -1, 0), -5);
        spoil(Due.bay(1), 0, 0, -1, 0);
    }

    private static void ransom() {
        HighWater x = Due.four(3);
        x.go(0, 0, 0);
        Due.is("nobody in the way", x.ransom(0, 1, 0), 0);
        x.go(1, 0, 3);
        Due.is("one in the way", x.ransom(0, 1, 0), 30);
        Due.is("the other way", x.ransom(1, 0, 0), 30);
        Due.is("another one", x.ransom(0, 2, 0), 0);
        x.go(2, 0, 0);
        Due.is("two in the way", x.ransom(0, 1, 0), 0);
        Due.is("it changes nothing", x.at(1, 0), 3);
        x.go(2, 0, 2);
        Due.is("on the shore", x.ransom(2, 1, 0), 0);
        Due.is("alike", x.ransom(0, 0, 0), -5);
        Due.is("nobody", x.ransom(3, 0, 0), -5);
        Due.is("nobody", x.ransom(0, 3, 0), -5);
        Due.is("nobody", x.ransom(-1, 0, 0), -5);
        Due.is("nobody", x.ransom(0, -1, 0), -5);
        Due.is("tide 12", x.ransom(0, 1, 12), -5);
        Due.is("tide -1", x.ransom(0, 1, -1), -5);
    }
}
