/** Promises 1 to 11. */
public final class TidesPeopleLawTest {
    public static void main(String[] args) {
        newObject();
        tide();
        height();
        come();
        go();
        at();
        count();
        feed();
        text();
        force();
        asks();
        Due.end();
    }

    private static void newObject() {
        HighWater x = new HighWater();
        Due.is("count(0)", x.count(0), 0);
        Due.is("count(1)", x.count(1), 0);
        Due.is("count(2)", x.count(2), 1);
        Due.is("count(3)", x.count(3), 0);
        Due.is("count(4)", x.count(4), 0);
        for (int t = 0; t < 12; t++) {
            Due.is("height", x.height(t), 5);
        }
        Due.is("at", x.at(0, 0), -5);
        Due.is("told", x.told(0, 0), -5);
        Due.is("back", x.back(), HighWater.STATE);
        for (int s = 0; s < 4; s++) {
            Due.is("cell of a missing sheet", x.cell(s, 0, 0), -11);
        }
        // One object's calls are not another one's.
        x.tide(3, 9);
        x.come();
        Due.is("another one's height", new HighWater().height(3), 5);
        Due.is("another one's people", new HighWater().count(1), 0);
    }

    private static void tide() {
        HighWater x = new HighWater();
        Due.is("tide(0, 9)", x.tide(0, 9), 5);
        Due.is("tide(0, 0)", x.tide(0, 0), 9);
        Due.is("tide(11, 3)", x.tide(11, 3), 5);
        Due.is("height(11)", x.height(11), 3);
        Due.is("height(10)", x.height(10), 5);
        Due.is("tide(-1, 3)", x.tide(-1, 3), -5);
        Due.is("tide(12, 3)", x.tide(12, 3), -5);
        Due.is("tide(0, 10)", x.tide(0, 10), -7);
        Due.is("tide(0, -1)", x.tide(0, -1), -7);
        Due.is("tide(12, 10)", x.tide(12, 10), -5);
        Due.is("refused tides change nothing", x.height(0), 0);
    }

    private static void height() {
        HighWater x = new HighWater();
        x.tide(7, 8);
        Due.is("height(7)", x.height(7), 8);
        Due.is("height(12)", x.height(12), -5);
        Due.is("height(-1)", x.height(-1), -5);
        Due.is("height(min)", x.height(Integer.MIN_VALUE), -5);
    }

    private static void come() {
        HighWater x = new HighWater();
        for (int p = 0; p < 4; p++) {
            Due.is("come", x.come(), p);
            for (int t = 0; t < 12; t++) {
                Due.is("at", x.at(p, t), -1);
            }
        }
        Due.is("a fifth", x.come(), HighWater.FULL);
        Due.is("count(1)", x.count(1), 4);
    }

    private static void go() {
        HighWater x = Due.bay(2);
        x.island(0, 10, 0, 0);
        x.island(0, 10, 0, 0);
        Due.is("go(1, 3, 1)", x.go(1, 3, 1), -1);
        Due.is("go(1, 3, 0)", x.go(1, 3, 0), 1);
        Due.is("go(1, 3, -1)", x.go(1, 3, -1), 0);
        Due.is("go(1, 3, -1) again", x.go(1, 3, -1), -1);
        Due.is("go(1, 3, 2)", x.go(1, 3, 2), -7);
        Due.is("go(1, 3, -2)", x.go(1, 3, -2), -7);
        Due.is("go(2, 3, 0)", x.go(2, 3, 0), -5);
        Due.is("go(-1, 3, 0)", x.go(-1, 3, 0), -5);
        Due.is("go(0, 12, 0)", x.go(0, 12, 0), -5);
        Due.is("go(0, -1, 0)", x.go(0, -1, 0), -5);
        Due.is("go(2, 3, 9)", x.go(2, 3, 9), -5);
        Due.is("go(0, 12, 9)", x.go(0, 12, 9), -5);
        Due.is("refusals change nothing", x.at(1, 3), -1);
        Due.is("go to what is under water", lowGone(), -1);
    }

    /** One can go to an ISLAND that doesn't STAND. */
    private static int lowGone() {
        HighWater x = Due.bay(1);
        x.island(2, 10, 0, 0);
        int was = x.go(0, 0, 0);
        Due.is("at under water", x.at(0, 0), 0);
        return was;
    }

    private static void at() {
        HighWater x = Due.bay(2);
        x.island(0, 10, 0, 0);
        x.go(0, 5, 0);
        Due.is("at(0, 5)", x.at(0, 5), 0);
        Due.is("at(0, 4)", x.at(0, 4), -1);
        Due.is("at(0, 6)", x.at(0, 6), -1);
        Due.is("at(1, 5)", x.at(1, 5), -1);
        Due.is("at(2, 5)", x.at(2, 5), -5);
        Due.is("at(-1, 5)", x.at(-1, 5), -5);
        Due.is("at(0, 12)", x.at(0, 12), -5);
        Due.is("at(0, -1)", x.at(0, -1), -5);
    }

    private static void count() {
        HighWater x = Due.bay(3);
        x.island(0, 1, 1, 1);
        Due.law(x, "worth 1;costs 2;storm 3;");
        Due.text(x, "worth 1;costs 2;storm 3;");
        Due.feed(x, "abcd");
        Due.is("count(0)", x.count(0), 1);
        Due.is("count(1)", x.count(1), 3);
        Due.is("count(2)", x.count(2), 3);
        Due.is("count(3)", x.count(3), 1);
        Due.is("count(4)", x.count(4), 4);
        Due.is("count(5)", x.count(5), HighWater.BAD);
        Due.is("count(-1)", x.count(-1), HighWater.BAD);
    }

    private static void feed() {
        HighWater x = new HighWater();
        Due.is("feed 0", x.feed(0, 1, 1, 1, 1, 1), -2);
        Due.is("feed 6", x.feed(6, 1, 1, 1, 1, 1), -2);
        Due.is("feed -1", x.feed(-1, 1, 1, 1, 1, 1), -2);
        int[] bytes = new int[5];
        for (int k = 0; k < 5; k++) {
            for (int bad : new int[] {-1, 256, Integer.MAX_VALUE, Integer.MIN_VALUE}) {
                bytes[k] = bad;
                Due.is("feed of " + bad, x.feed(1, bytes[0], bytes[1], bytes[2], bytes[3], bytes[4]), -2);
                bytes[k] = 0;
            }
        }
        Due.is("count(4)", x.count(4), 0);
        Due.is("feed 5", x.feed(5, 255, 0, 32, 10, 97), 5);
        Due.is("feed 3", x.feed(3, 1, 2, 3, 4, 5), 8);
        for (int had = 8; had < 158; had += 5) {
            Due.is("feed 5", x.feed(5, 32, 32, 32, 32, 32), had + 5);
        }
        Due.is("feed 3 to 158", x.feed(3, 32, 32, 32, 32, 32), HighWater.FULL);
        Due.is("none came", x.count(4), 158);
        Due.is("BAD ahead of FULL", x.feed(3, 32, 32, 32, 32, 256), HighWater.BAD);
        Due.is("feed 2 to 158", x.feed(2, 32, 32, 32, 32, 32), 160);
        Due.is("feed 1 to 160", x.feed(1, 32, 32, 32, 32, 32), HighWater.FULL);
        // The first of five bytes is at the first place, and so on.
        HighWater y = new HighWater();
        y.feed(5, 'w', 'o', 'r', 't', 'h');
        y.feed(4, ' ', '7', ';', ' ', '?');
        y.feed(3, 'c', 'o', 's', '?', '?');
        y.feed(2, 't', 's', '?', '?', '?');
        y.feed(1, '1', '?', '?', '?', '?');
        Due.feed(y, "; storm 2 ;");
        Due.is("text", y.text(), 1);
        y.force(1);
        Due.is("worth", y.asks(0, 0, 0, 0, 0), 7);
        Due.is("costs", y.asks(1, 0, 0, 0, 0), 1);
    }

    private static void text() {
        HighWater x = new HighWater();
        Due.is("text of nothing", x.text(), -100);
        Due.is("a fault", Due.text(x, "worth told ; cost far ; storm 0 ;"), -113);
        Due.is("the tape behind a fault", x.count(4), 0);
        Due.is("the texts behind a fault", x.count(2), 1);
        for (int k = 1; k < 6; k++) {
            Due.is("text", Due.text(x, "worth " + k + " ; costs 0 ; storm 0 ;"), k);
            Due.is("the tape behind a text", x.count(4), 0);
            Due.is("texts", x.count(2), k + 1);
        }
        Due.is("the law stays", x.count(3), 0);
        Due.is("a seventh", Due.text(x, "worth 1;costs 2;storm 3;"), HighWater.FULL);
        Due.is("the tape stays", x.count(4), 24);
        Due.is("full ahead of a fault", Due.text(x, "?"), HighWater.FULL);
        Due.is("the tape stays", x.count(4), 25);
        for (int k = 1; k < 6; k++) {
            x.force(k);
            Due.is("each says its own", x.asks(0, 0, 0, 0, 0), k);
        }
        Due.is("force(6) of six", x.force(6), -2);
        Due.is("the law stays", x.count(3), 5);
    }

    private static void force() {
        HighWater x = new HighWater();
        Due.is("force(1)", x.force(1), -2);
        Due.is("force(-1)", x.force(-1), -2);
        Due.is("force(0)", x.force(0), 0);
        Due.text(x, "worth 42;costs 0;storm 0;");
        Due.is("not yet the law", x.asks(0, 1, 0, 0, 0), 1);
        Due.is("force(1)", x.force(1), 0);
        Due.is("now the law", x.asks(0, 1, 0, 0, 0), 42);
        Due.is("force(6)", x.force(6), -2);
        Due.is("force(2)", x.force(2), -2);
        Due.is("count(3)", x.count(3), 1);
        Due.is("force(0)", x.force(0), 1);
    }

    private static void asks() {
        HighWater x = new HighWater();
        Due.is("worth", x.asks(0, 99, 12, 3, 45), 99);
        Due.is("costs", x.asks(1, 99, 12, 3, 45), 3);
        Due.is("storm", x.asks(2, 99, 92, 3, 45), 18);
        Due.is("part 3", x.asks(3, 0, 0, 0, 0), -2);
        Due.is("part -1", x.asks(-1, 0, 0, 0, 0), -2);
        Due.is("told 100", x.asks(0, 100, 0, 0, 0), -2);
        Due.is("told -1", x.asks(0, -1, 0, 0, 0), -2);
        Due.is("heightMore 100", x.asks(0, 0, 100, 0, 0), -2);
        Due.is("heightMore -1", x.asks(0, 0, -1, 0, 0), -2);
        Due.is("far 10", x.asks(0, 0, 0, 10, 0), -2);
        Due.is("far -1", x.asks(0, 0, 0, -1, 0), -2);
        Due.is("tideNumber 120", x.asks(0, 0, 0, 0, 120), -2);
        Due.is("tideNumber -1", x.asks(0, 0, 0, 0, -1), -2);
        Due.is("the most of all", x.asks(0, 99, 99, 9, 119), 99);
        String[] names = {"told", "height", "more", "far", "tide", "number"};
        int[] due = {87, 6, 5, 4, 11, 9};
        for (int k = 1; k < 6; k++) {
            Due.law(x, "worth " + names[k] + ";costs " + names[k] + ";storm " + names[k] + ";");
            for (int part = 0; part < 3; part++) {
                Due.is(names[k], x.asks(part, 87, 65, 4, 119), due[k]);
            }
        }
        HighWater y = new HighWater();
        Due.law(y, "worth told*2;costs told*2;storm told*2;");
        Due.is("worth's bound", y.asks(0, 50, 0, 0, 0), 99);
        Due.is("costs' bound", y.asks(1, 50, 0, 0, 0), 99);
        Due.is("storm 100", y.asks(2, 50, 0, 0, 0), 100);
        Due.is("storm's bound", y.asks(2, 51, 0, 0, 0), 100);
        Due.law(y, "worth - 1;costs - told;storm 0 - told;");
        Due.is("worth not below 0", y.asks(0, 5, 0, 0, 0), 0);
        Due.is("costs not below 0", y.asks(1, 5, 0, 0, 0), 0);
        Due.is("storm not below 0", y.asks(2, 5, 0, 0, 0), 0);
    }
}
