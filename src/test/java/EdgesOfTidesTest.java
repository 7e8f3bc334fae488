import java.util.List;

/** The edges that promises 1 to 15 name: each sentence has a test of its own. */
public final class EdgesOfTidesTest {
    private static final int MIN = Integer.MIN_VALUE, MAX = Integer.MAX_VALUE;

    public static void main(String[] args) {
        newObject();
        newObjectsApart();
        tideWas();
        tideRefuses();
        heightRefuses();
        come();
        comeFull();
        comeBehindBack();
        goWas();
        goRefuses();
        atRefuses();
        count();
        feedFirstN();
        feedHowMany();
        feedBad();
        feedFull();
        textEmptiesTape();
        textFull();
        force();
        forceBad();
        asksEnds();
        asksBad();
        islandBad();
        islandFull();
        islandBehindBack();
        toldRefuses();
        thenAnswers();
        thenRefuses();
        joinedTides();
        joinedRefuses();
        calls512();
        Due.end();
    }

    private static void newObject() {
        Due.sentence("1: No ISLANDS, nobody");
        HighWater x = new HighWater();
        int[] counts = {0, 0, 1, 0, 0};
        for (int what = 0; what < 5; what++) {
            Due.is("count(" + what + ")", x.count(what), counts[what]);
        }
        Due.is("told(0, 0)", x.told(0, 0), -5);
        Due.is("at(0, 0)", x.at(0, 0), -5);
        Due.is("family(0, 0, 0)", x.family(0, 0, 0), 0);
        Due.is("family(1, 0, 0)", x.family(1, 0, 0), -5);
        Due.is("rest(0)", x.rest(0), 1);
        Due.is("ways(11, 0)", x.ways(11, 0), 1);
        Due.is("ways(11, 1)", x.ways(11, 1), 0);
        for (int what = 0; what < 4; what++) {
            Due.is("dear(" + what + ")", x.dear(what), 0);
        }
        Due.is("back()", x.back(), HighWater.STATE);
        for (int s = 0; s < 4; s++) {
            Due.is("judge(" + s + ", 0)", x.judge(s, 0), -11);
            Due.is("when(" + s + ")", x.when(s), -11);
            Due.is("cell(" + s + ", 0, 0)", x.cell(s, 0, 0), -11);
            Due.is("copy of " + s, x.copy(s, 0, s, 0, 0), -11);
            Due.is("islandsBy(" + s + ", 0, 0, 0)", x.islandsBy(s, 0, 0, 0), -11);
        }
        for (int i = 12; i < 18; i++) {
            Due.is("taken(" + i + ", 0)", x.taken(i, 0), -11);
        }
    }

    private static void newObjectsApart() {
        Due.sentence("1: a new object, whatever another one had");
        List<String> ahead = Kept.of(new HighWater());
        HighWater other = Bays.full();
        Due.isTrue("as ahead of what another object had", ahead.equals(Kept.of(new HighWater())));
        HighWater x = new HighWater();
        x.sheet(0, 2, 4);
        Due.is("no numbers of another one", x.islandsBy(0, 2, 0, 1), 1);
        Due.is("told", x.told(0, 0) + x.told(0, 1), 0);
        Due.is("the other one's", other.count(0), 6);
    }

    private static void tideWas() {
        Due.sentence("2: How HIGH a TIDE is becomes v: what it was");
        HighWater x = new HighWater();
        Due.is("tide(6, 0)", x.tide(6, 0), 5);
        Due.is("tide(6, 0) again", x.tide(6, 0), 0);
        Due.is("tide(6, 9)", x.tide(6, 9), 0);
        Due.is("tide(6, 1)", x.tide(6, 1), 9);
        for (int t = 0; t < 12; t++) {
            Due.is("height(" + t + ")", x.height(t), t == 6 ? 1 : 5);
        }
    }

    private static void tideRefuses() {
        Due.sentence("2: -5: no such TIDE; -7: v");
        HighWater x = new HighWater();
        for (int bad : new int[] {-1, 12, MIN, MAX}) {
            Due.is("tide(" + bad + ", 9)", x.tide(bad, 9), -5);
            Due.is("-5 ahead of -7", x.tide(bad, 10), -5);
        }
        for (int bad : new int[] {-1, 10, MIN, MAX}) {
            Due.is("tide(0, " + bad + ")", x.tide(0, bad), -7);
            Due.is("tide(11, " + bad + ")", x.tide(11, bad), -7);
        }
        Due.same("tide, refused,", x, new HighWater());
    }

    private static void heightRefuses() {
        Due.sentence("3: -5: no such TIDE");
        HighWater x = new HighWater();
        for (int bad : new int[] {-1, 12, MIN, MAX}) {
            Due.is("height(" + bad + ")", x.height(bad), -5);
        }
        x.tide(0, 0);
        x.tide(11, 9);
        Due.is("height(0)", x.height(0), 0);
        Due.is("height(11)", x.height(11), 9);
    }

    private static void come() {
        Due.sentence("4: One more of PEOPLE, on the SHORE at all TIDES: the number");
        HighWater x = new HighWater();
        x.island(0, 9, 0, 0);
        for (int p = 0; p < 4; p++) {
            Due.is("come", x.come(), p);
            for (int t = 0; t < 12; t++) {
                Due.is("at", x.at(p, t), -1);
                x.go(p, t, 0);
            }
        }
    }

    private static void comeFull() {
        Due.sentence("4: FULL");
        HighWater x = Bays.full();
        Due.is("come", x.come(), HighWater.FULL);
        Due.is("come again", x.come(), HighWater.FULL);
        Due.is("count(1)", x.count(1), 4);
        Due.same("come, FULL,", x, Bays.full());
    }

    private static void comeBehindBack() {
        Due.sentence("4: on the SHORE, who came ahead of back too");
        HighWater x = new HighWater();
        x.image();
        x.island(0, 9, 0, 0);
        for (int p = 0; p < 4; p++) {
            x.come();
            x.go(p, 0, 0);
            x.go(p, 11, 0);
        }
        Due.is("FULL", x.come(), HighWater.FULL);
        x.back();
        for (int p = 0; p < 4; p++) {
            Due.is("come", x.come(), p);
            Due.is("at", x.at(p, 0), -1);
            Due.is("at", x.at(p, 11), -1);
        }
        Due.is("FULL", x.come(), HighWater.FULL);
    }

    private static void goWas() {
        Due.sentence("5: One is on an ISLAND (-1: on the SHORE) at a TIDE: where one was");
        HighWater x = Due.bay(4);
        for (int i = 0; i < 6; i++) {
            x.island(2, 9, 0, 0);
        }
        Due.is("go(0, 0, 0)", x.go(0, 0, 0), -1);
        Due.is("go(0, 0, 5)", x.go(0, 0, 5), 0);
        Due.is("go(0, 0, 5) again", x.go(0, 0, 5), 5);
        Due.is("go(0, 0, -1)", x.go(0, 0, -1), 5);
        Due.is("go(0, 0, -1) again", x.go(0, 0, -1), -1);
        Due.is("go(3, 11, 5)", x.go(3, 11, 5), -1);
        for (int p = 0; p < 4; p++) {
            for (int t = 0; t < 12; t++) {
                Due.is("at(" + p + ", " + t + ")", x.at(p, t), p == 3 && t == 11 ? 5 : -1);
            }
        }
    }

    private static void goRefuses() {
        Due.sentence("5: -5: no such one, TIDE; -7: no such ISLAND");
        HighWater x = Bays.half();
        for (int bad : new int[] {-1, 2, 4, MIN, MAX}) {
            Due.is("go(" + bad + ", 0, 0)", x.go(bad, 0, 0), -5);
            Due.is("go(" + bad + ", 0, 9)", x.go(bad, 0, 9), -5);
        }
        for (int bad : new int[] {-1, 12, MIN, MAX}) {
            Due.is("go(0, " + bad + ", 0)", x.go(0, bad, 0), -5);
            Due.is("go(0, " + bad + ", 9)", x.go(0, bad, 9), -5);
        }
        for (int bad : new int[] {-2, 3, 6, MIN, MAX}) {
            Due.is("go(1, 11, " + bad + ")", x.go(1, 11, bad), -7);
        }
        Due.is("go(1, 11, 2)", x.go(1, 11, 2), -1);
        Due.is("go(1, 11, -1)", x.go(1, 11, -1), 2);
        Due.same("go, refused,", x, Bays.half());
        HighWater none = Due.bay(1);
        Due.is("no ISLAND has come", none.go(0, 0, 0), -7);
        Due.is("the SHORE is there", none.go(0, 0, -1), -1);
    }

    private static void atRefuses() {
        Due.sentence("6: -5: no such one, TIDE");
        HighWater x = Due.bay(2);
        for (int bad : new int[] {-1, 2, 3, 4, MIN, MAX}) {
            Due.is("at(" + bad + ", 0)", x.at(bad, 0), -5);
        }
        for (int bad : new int[] {-1, 12, MIN, MAX}) {
            Due.is("at(0, " + bad + ")", x.at(0, bad), -5);
        }
        Due.is("at(1, 11)", x.at(1, 11), -1);
        Due.is("nobody at all", new HighWater().at(0, 0), -5);
    }

    private static void count() {
        Due.sentence("7: 0 ISLANDS, 1 PEOPLE, 2 TEXTS, 3 THE LAW, 4 bytes of THE TAPE. BAD");
        HighWater x = Bays.full();
        int[] due = {6, 4, 3, 1, 8};
        for (int what = 0; what < 5; what++) {
            Due.is("count(" + what + ")", x.count(what), due[what]);
        }
        for (int bad : new int[] {-1, 5, MIN, MAX}) {
            Due.is("count(" + bad + ")", x.count(bad), -2);
        }
    }

    private static void feedFirstN() {
        Due.sentence("8: The first n (1 .. 5) of five bytes come behind THE TAPE's, one by one");
        HighWater x = new HighWater();
        x.feed(5, 'w', 'o', 'r', 't', 'h');
        x.feed(1, ' ', '?', '?', '?', '?');
        x.feed(2, '4', '2', '?', '?', '?');
        x.feed(3, ';', 'c', 'o', '?', '?');
        x.feed(4, 's', 't', 's', ' ', '?');
        x.feed(5, '4', '3', ';', 's', 't');
        x.feed(5, 'o', 'r', 'm', ' ', '4');
        x.feed(2, '4', ';', '5', ';', '6');
        Due.is("text", x.text(), 1);
        x.force(1);
        for (int part = 0; part < 3; part++) {
            Due.is("asks", x.asks(part, 0, 0, 0, 0), 42 + part);
        }
    }

    private static void feedHowMany() {
        Due.sentence("8: how many it has");
        HighWater x = new HighWater();
        int had = 0;
        for (int n = 1; n < 6; n++) {
            had += n;
            Due.is("feed of " + n, x.feed(n, 0, 255, 0, 255, 0), had);
            Due.is("count(4)", x.count(4), had);
        }
    }

    private static void feedBad() {
        Due.sentence("8: BAD: n, any of the five");
        HighWater x = Bays.full();
        for (int bad : new int[] {-1, 0, 6, MIN, MAX}) {
            Due.is("feed of " + bad, x.feed(bad, 1, 1, 1, 1, 1), -2);
        }
        // Any of the five, also one behind the first n.
        for (int n = 1; n < 6; n++) {
            for (int bad : new int[] {-1, 256, MIN, MAX}) {
                Due.is("the first", x.feed(n, bad, 1, 1, 1, 1), -2);
                Due.is("the second", x.feed(n, 1, bad, 1, 1, 1), -2);
                Due.is("the third", x.feed(n, 1, 1, bad, 1, 1), -2);
                Due.is("the fourth", x.feed(n, 1, 1, 1, bad, 1), -2);
                Due.is("the fifth", x.feed(n, 1, 1, 1, 1, bad), -2);
            }
        }
        Due.same("feed, refused,", x, Bays.full());
    }

    private static HighWater fed(int bytes) {
        HighWater x = new HighWater();
        for (int had = 0; had < bytes; had++) {
            x.feed(1, 32, 0, 0, 0, 0);
        }
        Due.is("count(4)", x.count(4), bytes);
        return x;
    }

    private static void feedFull() {
        Due.sentence("8: FULL: they have not all room (none comes)");
        for (int n = 1; n < 6; n++) {
            HighWater x = fed(160 - n);
            Due.is("all have room", x.feed(n, 32, 32, 32, 32, 32), 160);
            Due.is("none has", x.feed(1, 32, 32, 32, 32, 32), HighWater.FULL);
            Due.is("BAD ahead of FULL", x.feed(6, 32, 32, 32, 32, 32), -2);
            Due.is("BAD ahead of FULL", x.feed(1, 32, 32, 32, 32, 256), -2);
            HighWater y = fed(161 - n);
            Due.is("not all have room", y.feed(n, 32, 32, 32, 32, 32), HighWater.FULL);
            Due.is("none comes", y.count(4), 161 - n);
            Due.is("fewer have room", n == 1 ? 160 : y.feed(n - 1, 32, 32, 32, 32, 32), 160);
        }
        HighWater x = fed(158);
        x.feed(3, 'a', 'b', 'c', 'd', 'e');
        Due.is("none has come", x.text(), -258);
    }

    private static void textEmptiesTape() {
        Due.sentence("9: THE TAPE, which is empty then (by a FAULT, too)");
        HighWater x = new HighWater();
        Due.is("a TEXT", Due.text(x, "worth 8;costs 1;storm 1;"), 1);
        Due.is("count(4)", x.count(4), 0);
        Due.is("of nothing", x.text(), -100);
        Due.is("a FAULT", Due.text(x, "worth 7;costs 1;storm 1;?"), -124);
        Due.is("count(4)", x.count(4), 0);
        Due.is("of nothing", x.text(), -100);
        Due.is("all anew", Due.text(x, "worth 6;costs 1;storm 1;"), 2);
        Due.is("count(2)", x.count(2), 3);
        Due.is("count(3)", x.count(3), 0);
        // There is room again.
        HighWater y = fed(160);
        Due.is("FULL", y.feed(1, 32, 0, 0, 0, 0), HighWater.FULL);
        y.text();
        Due.is("room", y.feed(5, 32, 32, 32, 32, 32), 5);
    }

    private static void textFull() {
        Due.sentence("9: FULL (ahead of the FAULT; then THE TAPE stays)");
        HighWater x = Bays.allTexts();
        Due.is("with a FAULT", x.text(), HighWater.FULL);
        Due.is("count(4)", x.count(4), 3);
        Due.is("count(2)", x.count(2), 6);
        Due.is("THE TAPE goes on", x.feed(1, 32, 0, 0, 0, 0), 4);
        HighWater y = new HighWater();
        for (int k = 1; k < 6; k++) {
            Due.is("text", Due.text(y, "worth 1;costs 1;storm 1;"), k);
        }
        Due.is("of nothing", y.text(), HighWater.FULL);
        Due.is("of a good one", Due.text(y, "worth 1;costs 1;storm 1;"), HighWater.FULL);
        Due.is("count(4)", y.count(4), 24);
    }

    private static void force() {
        Due.sentence("10: A TEXT is THE LAW: which was");
        HighWater x = Bays.allTexts();
        Due.is("force(0)", x.force(0), 5);
        Due.is("force(5)", x.force(5), 0);
        Due.is("force(5) again", x.force(5), 5);
        Due.is("count(3)", x.count(3), 5);
        Due.is("its worth", x.asks(0, 0, 0, 0, 0), 5);
    }

    private static void forceBad() {
        Due.sentence("10: BAD");
        HighWater x = Bays.full();
        for (int bad : new int[] {-1, 3, 5, 6, MIN, MAX}) {
            Due.is("force(" + bad + ")", x.force(bad), -2);
        }
        Due.same("force, refused,", x, Bays.full());
        HighWater y = new HighWater();
        Due.is("only TEXT 0", y.force(1), -2);
        Due.is("only TEXT 0", y.force(0), 0);
        HighWater all = Bays.allTexts();
        Due.is("only six", all.force(6), -2);
    }

    private static void asksEnds() {
        Due.sentence("11: told 0 .. 99; heightMore 0 .. 99; far 0 .. 9; tideNumber 0 .. 119");
        String[] names = {"told", "height", "more", "far", "tide", "number"};
        int[][] asked = {{0, 0, 0, 0}, {99, 99, 9, 119}, {1, 9, 1, 9}, {2, 10, 2, 10}, {3, 90, 3, 110}};
        int[][] due = {{0, 0, 0, 0, 0, 0}, {99, 9, 9, 9, 11, 9}, {1, 0, 9, 1, 0, 9}, {2, 1, 0, 2, 1, 0},
            {3, 9, 0, 3, 11, 0}};
        for (int k = 0; k < 6; k++) {
            HighWater x = new HighWater();
            Due.law(x, "worth " + names[k] + ";costs " + names[k] + ";storm " + names[k] + ";");
            for (int n = 0; n < asked.length; n++) {
                int[] a = asked[n];
                for (int part = 0; part < 3; part++) {
                    Due.is(names[k] + " asked", x.asks(part, a[0], a[1], a[2], a[3]), due[n][k]);
                }
            }
        }
    }

    private static void asksBad() {
        Due.sentence("11: BAD");
        HighWater x = new HighWater();
        for (int bad : new int[] {-1, MIN, MAX}) {
            Due.is("part", x.asks(bad, 0, 0, 0, 0), -2);
            Due.is("told", x.asks(0, bad, 0, 0, 0), -2);
            Due.is("heightMore", x.asks(0, 0, bad, 0, 0), -2);
            Due.is("far", x.asks(0, 0, 0, bad, 0), -2);
            Due.is("tideNumber", x.asks(0, 0, 0, 0, bad), -2);
        }
        Due.is("part 3", x.asks(3, 0, 0, 0, 0), -2);
        Due.is("told 100", x.asks(0, 100, 0, 0, 0), -2);
        Due.is("heightMore 100", x.asks(0, 0, 100, 0, 0), -2);
        Due.is("far 10", x.asks(0, 0, 0, 10, 0), -2);
        Due.is("tideNumber 120", x.asks(0, 0, 0, 0, 120), -2);
    }

    private static void islandBad() {
        Due.sentence("12: An ISLAND (KIND, TOLD, RISES, MORE): its number. BAD");
        HighWater x = Bays.half();
        int[] beyond = {6, 100, 10, 10};
        for (int k = 0; k < 4; k++) {
            for (int bad : new int[] {-1, beyond[k], MIN, MAX}) {
                int[] a = {0, 0, 0, 0};
                a[k] = bad;
                Due.is("number " + k + " is " + bad, x.island(a[0], a[1], a[2], a[3]), -2);
            }
        }
        Due.same("island, refused,", x, Bays.half());
        HighWater y = Bays.half();
        Due.is("the number behind", y.island(0, 0, 0, 0), 3);
        Due.is("the number behind", y.island(5, 99, 9, 9), 4);
    }

    private static void islandFull() {
        Due.sentence("12: FULL");
        HighWater x = Bays.full();
        Due.is("a seventh", x.island(0, 0, 0, 0), HighWater.FULL);
        Due.is("a seventh", x.island(5, 99, 9, 9), HighWater.FULL);
        Due.is("BAD ahead of FULL", x.island(6, 0, 0, 0), -2);
        Due.is("BAD ahead of FULL", x.island(0, 100, 0, 0), -2);
        Due.is("BAD ahead of FULL", x.island(0, 0, 10, 0), -2);
        Due.is("BAD ahead of FULL", x.island(0, 0, 0, 10), -2);
        Due.same("island, FULL,", x, Bays.full());
    }

    private static void islandBehindBack() {
        Due.sentence("12: its number, where another one was ahead of back");
        HighWater x = Bays.full();
        x.back();
        for (int i = 1; i < 6; i++) {
            Due.is("island", x.island(0, 90 + i, 0, 0), i);
            Due.is("told", x.told(i, 1), 90 + i);
            Due.is("told", x.told(i, 0), 0);
        }
        Due.is("FULL", x.island(0, 0, 0, 0), HighWater.FULL);
    }

    private static void toldRefuses() {
        Due.sentence("13: -5: no such ISLAND; -7: what");
        HighWater x = Bays.half();
        for (int bad : new int[] {-1, 3, 5, 6, MIN, MAX}) {
            Due.is("told(" + bad + ", 0)", x.told(bad, 0), -5);
            Due.is("-5 ahead of -7", x.told(bad, 4), -5);
        }
        for (int bad : new int[] {-1, 4, MIN, MAX}) {
            Due.is("told(0, " + bad + ")", x.told(0, bad), -7);
        }
        int[] due = {3, 32, 7, 2};
        for (int what = 0; what < 4; what++) {
            Due.is("told(2, " + what + ")", x.told(2, what), due[what]);
        }
        Due.is("none has come", new HighWater().told(0, 0), -5);
    }

    private static void thenAnswers() {
        Due.sentence("14: what 0 WORTH, 1 1, if it STANDS, else 0, 2 all that are ONE with it (bits)");
        HighWater x = new HighWater();
        x.island(2, 99, 4, 0);
        for (int i = 1; i < 5; i++) {
            x.island(0, 0, 0, 0);
        }
        x.island(5, 1, 6, 0);
        Due.is("then(0, 0, 0)", x.then(0, 0, 0), 99);
        Due.is("then(0, 0, 1)", x.then(0, 0, 1), 0);
        Due.is("then(0, 0, 2)", x.then(0, 0, 2), 33);
        Due.is("then(5, 11, 0)", x.then(5, 11, 0), 1);
        Due.is("then(5, 11, 1)", x.then(5, 11, 1), 1);
        Due.is("then(5, 11, 2)", x.then(5, 11, 2), 33);
        Due.is("then(4, 11, 0)", x.then(4, 11, 0), 0);
        Due.is("then(4, 11, 2)", x.then(4, 11, 2), 16);
    }

    private static void thenRefuses() {
        Due.sentence("14: -5: no such ISLAND, TIDE; -7: what");
        HighWater x = Bays.half();
        for (int bad : new int[] {-1, 3, 6, MIN, MAX}) {
            Due.is("then(" + bad + ", 0, 0)", x.then(bad, 0, 0), -5);
            Due.is("-5 ahead of -7", x.then(bad, 0, 3), -5);
        }
        for (int bad : new int[] {-1, 12, MIN, MAX}) {
            Due.is("then(0, " + bad + ", 0)", x.then(0, bad, 0), -5);
            Due.is("-5 ahead of -7", x.then(0, bad, -1), -5);
        }
        for (int bad : new int[] {-1, 3, MIN, MAX}) {
            Due.is("then(0, 0, " + bad + ")", x.then(0, 0, bad), -7);
        }
    }

    private static void joinedTides() {
        Due.sentence("15: TIDES (bits) at which two ISLANDS are ONE");
        HighWater x = new HighWater();
        x.island(5, 1, 1, 1);
        x.island(2, 1, 0, 0);
        Due.is("at none", x.joined(0, 1), 0);
        x.tide(0, 0);
        Due.is("at the first", x.joined(0, 1), 1);
        x.tide(0, 1);
        x.tide(11, 0);
        Due.is("at the last", x.joined(1, 0), 2048);
        Due.is("at all: itself", x.joined(0, 0), 4095);
        for (int t = 0; t < 12; t++) {
            x.tide(t, 0);
        }
        Due.is("at all", x.joined(0, 1), 4095);
    }

    private static void joinedRefuses() {
        Due.sentence("15: -5: no such ISLANDS");
        HighWater x = Bays.half();
        for (int bad : new int[] {-1, 3, 5, 6, MIN, MAX}) {
            Due.is("joined(" + bad + ", 0)", x.joined(bad, 0), -5);
            Due.is("joined(2, " + bad + ")", x.joined(2, bad), -5);
            Due.is("joined(" + bad + ", itself)", x.joined(bad, bad), -5);
        }
        Due.is("none has come", new HighWater().joined(0, 0), -5);
    }

    private static void calls512() {
        Due.sentence("An object is used for at most 512 calls: all of them hold");
        HighWater x = new HighWater();
        for (int k = 0; k < 255; k++) {
            Due.is("tide", x.tide(k % 12, k % 10), k < 12 ? 5 : (k - 12) % 10);
            Due.is("image", x.image(), 0);
        }
        Due.is("the 511th", x.island(0, 1, 2, 3), 0);
        Due.is("the 512th", x.told(0, 3), 3);
    }
}
