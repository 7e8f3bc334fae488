/** Promises 36 to 39. */
public final class StormsTest {
    public static void main(String[] args) {
        drawn();
        stormNames();
        mean();
        image();
        back();
        Due.end();
    }

    /** LOTS modulo 100: of SEED 0 71 94 86 37, of 3 84 76 50 7, of 7 68 52 0 67, of 12 23 75 89 64, of 99999 6 59 55 33. */
    private static HighWater bay(int chance) {
        HighWater x = Due.bay(4);
        x.island(0, 20, 0, 0);
        x.island(0, 30, 0, 0);
        x.island(2, 30, 0, 0);
        Due.law(x, "worth told; costs 0; storm " + chance + ";");
        return x;
    }

    private static void kept(HighWater x, int seed, int bits) {
        Due.is("kept by " + seed, x.drawn(seed, 0, 0, 0), bits);
    }

    private static void drawn() {
        HighWater x = bay(70);
        kept(x, 7, 0);
        for (int p = 0; p < 4; p++) {
            x.go(p, 0, p % 3);
        }
        kept(x, 0, 8);
        kept(x, 3, 4 + 8);
        kept(x, 7, 15);
        kept(x, 12, 1 + 8);
        kept(x, 99999, 15);
        HighWater y = bay(52);
        y.go(0, 0, 0);
        y.go(1, 0, 0);
        y.go(3, 0, 1);
        kept(y, 7, 0);
        Due.text(y, "worth told; costs 0; storm 53;");
        y.force(2);
        // The one on the shore has a LOT as well, so the fourth one's is 67.
        kept(y, 7, 2);
        Due.is("the first has it alone", y.drawn(7, 0, 0, 1), 20);
        Due.is("kept has none", y.drawn(7, 1, 0, 1), 0);
        Due.is("on the shore", y.drawn(7, 2, 0, 1), 0);
        Due.is("another one", y.drawn(7, 3, 0, 1), 30);
        Due.is("nobody kept", y.drawn(0, 0, 0, 1), 0);
        kept(y, 0, 8);
        Due.is("it changes nothing", y.at(1, 0), 0);
        Due.is("nor gain", y.gain(0, 0), 0);
        HighWater never = bay(0);
        HighWater always = bay(100);
        for (int p = 0; p < 4; p++) {
            never.go(p, 0, 0);
            always.go(p, 0, 0);
        }
        for (int seed = 0; seed < 20; seed++) {
            kept(never, seed, 0);
            kept(always, seed, 15);
        }
        drawnRefuses(y);
    }

    private static void drawnRefuses(HighWater y) {
        Due.is("nobody", y.drawn(0, 4, 0, 0), -5);
        Due.is("nobody", y.drawn(0, -1, 0, 0), -5);
        Due.is("tide 12", y.drawn(0, 0, 12, 0), -5);
        Due.is("tide -1", y.drawn(-1, 0, -1, 2), -5);
        Due.is("seed -1", y.drawn(-1, 0, 0, 0), -7);
        Due.is("seed 100000", y.drawn(100000, 0, 0, 0), -7);
        Due.is("what 2", y.drawn(0, 0, 0, 2), -7);
        Due.is("what -1", y.drawn(0, 0, 0, -1), -7);
    }

    /** What storm is told: height, tide, number of the ISLAND; told, more, far 0. LOTS of 7: 68 52 0 67. */
    private static void stormNames() {
        HighWater x = Due.bay(3);
        x.island(5, 99, 9, 9);
        x.island(5, 99, 9, 9);
        for (int p = 0; p < 3; p++) {
            x.go(p, 6, p % 2);
        }
        x.tide(6, 8);
        Due.law(x, "worth 0; costs 0; storm (told + more + far) * 99;");
        Due.is("told, more, far", x.drawn(7, 0, 6, 0), 0);
        Due.law(x, "worth 0; costs 0; storm height * 7;");
        Due.is("height 8", x.drawn(7, 0, 6, 0), 2 + 4);
        Due.law(x, "worth 0; costs 0; storm tide * 9;");
        Due.is("tide 6", x.drawn(7, 0, 6, 0), 2 + 4);
        Due.law(x, "worth 0; costs 0; storm (number = 1) * 100;");
        Due.is("number 1", x.drawn(7, 0, 6, 0), 2);
        Due.law(x, "worth 0; costs 0; storm (number = 0) * 69;");
        Due.is("number 0", x.drawn(7, 0, 6, 0), 1 + 4);
    }

    private static void mean(HighWater x, int p, int seed, int seeds, long above, long below) {
        Due.is("above", x.mean(p, 0, seed, seeds, 0), above);
        Due.is("below", x.mean(p, 0, seed, seeds, 1), below);
    }

    private static void mean() {
        HighWater x = bay(50);
        x.go(0, 0, 1);
        // LOTS of 0 .. 5 begin with 71 42 13 84 55 26.
        mean(x, 0, 0, 1, 30, 1);
        mean(x, 0, 1, 1, 0, 1);
        mean(x, 0, 0, 2, 15, 1);
        mean(x, 0, 0, 3, 10, 1);
        mean(x, 0, 0, 4, 15, 1);
        mean(x, 0, 0, 5, 18, 1);
        mean(x, 0, 1, 5, 12, 1);
        x.go(0, 0, 0);
        mean(x, 0, 0, 3, 20, 3);
        mean(x, 0, 1, 3, 20, 3);
        mean(x, 0, 0, 6, 10, 1);
        mean(x, 1, 0, 40, 0, 1);
        // The other one is there too: one has it when the other one is kept, this one not. Seconds: 94 88 82 76 70 64.
        x.go(1, 0, 0);
        mean(x, 0, 0, 6, 0, 1);
        mean(x, 1, 0, 6, 10, 1);
        // SEEDS behind the last one are each 1 more all the same: 6, 77, 48, 19, 90.
        x.go(1, 0, -1);
        mean(x, 0, 99999, 2, 10, 1);
        mean(x, 0, 99999, 5, 8, 1);
        Due.is("it changes nothing", x.at(0, 0), 0);
        Due.is("nobody", x.mean(4, 0, 0, 1, 0), HighWater.NO);
        Due.is("nobody", x.mean(-1, 0, 0, 1, 0), HighWater.NO);
        Due.is("tide 12", x.mean(0, 12, 0, 1, 0), HighWater.NO);
        Due.is("tide -1", x.mean(0, -1, 0, 1, 0), HighWater.NO);
        Due.is("seed -1", x.mean(0, 0, -1, 1, 0), HighWater.NO);
        Due.is("seed 100000", x.mean(0, 0, 100000, 1, 0), HighWater.NO);
        Due.is("seeds 0", x.mean(0, 0, 0, 0, 0), HighWater.NO);
        Due.is("seeds -1", x.mean(0, 0, 0, -1, 0), HighWater.NO);
        Due.is("seeds 41", x.mean(0, 0, 0, 41, 0), HighWater.NO);
        Due.is("part 2", x.mean(0, 0, 0, 1, 2), HighWater.NO);
        Due.is("part -1", x.mean(0, 0, 0, 1, -1), HighWater.NO);
    }

    private static void image() {
        HighWater x = new HighWater();
        Due.is("image", x.image(), 0);
        x.island(0, 1, 1, 1);
        x.island(0, 1, 1, 1);
        Due.is("image", x.image(), 2);
        x.island(0, 1, 1, 1);
        Due.is("the last image", x.back(), 2);
        Due.is("count(0)", x.count(0), 2);
    }

    private static void back() {
        HighWater x = Due.bay(1);
        Due.is("none", x.back(), HighWater.STATE);
        x.island(0, 11, 1, 1);
        x.go(0, 3, 0);
        x.tide(2, 7);
        Due.law(x, "worth 9; costs 0; storm 0;");
        x.sheet(0, 2, 2);
        x.image();
        x.come();
        x.island(0, 55, 2, 2);
        x.go(0, 3, 1);
        x.go(0, 4, 0);
        x.go(1, 4, 1);
        x.tide(2, 1);
        x.tide(1, 1);
        Due.text(x, "worth 8; costs 0; storm 0;");
        x.force(2);
        Due.feed(x, "abc");
        x.sheet(1, 2, 3);
        x.cell(0, 0, 5);
        Due.is("back", x.back(), 1);
        Due.is("islands", x.count(0), 1);
        Due.is("people", x.count(1), 1);
        Due.is("the law", x.count(3), 1);
        Due.is("height", x.height(2), 7);
        Due.is("height", x.height(1), 5);
        Due.is("at", x.at(0, 3), 0);
        Due.is("at", x.at(0, 4), -1);
        Due.is("island 1 is none", x.told(1, 0), -5);
        Due.is("one 1 is none", x.at(1, 4), -5);
        Due.is("nothing lies there", x.taken(13, 0), -11);
        Due.is("texts stay", x.count(2), 3);
        Due.is("the tape stays", x.count(4), 3);
        Due.is("sheets stay", x.cell(1, 2, 0), 1);
        // Who comes then is new, on the SHORE, and so are ISLANDS.
        Due.is("come", x.come(), 1);
        Due.is("on the shore", x.at(1, 4), -1);
        Due.is("island", x.island(4, 66, 3, 4), 1);
        Due.is("its kind", x.told(1, 0), 4);
        Due.is("told", x.told(1, 1), 66);
        Due.is("told of the old one", x.told(0, 1), 11);
        // THE IMAGE is as it was.
        x.tide(2, 3);
        x.go(0, 3, 1);
        Due.is("back again", x.back(), 1);
        Due.is("height", x.height(2), 7);
        Due.is("at", x.at(0, 3), 0);
        x.tide(2, 4);
        Due.is("back once more", x.back(), 1);
        Due.is("height", x.height(2), 7);
    }
}
