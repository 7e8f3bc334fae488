/** The edges that "Terms 1" names of THE TAPE, TOKENS, E, FAULT, TEXTS: each sentence has a test of its own. */
public final class EdgesOfTextsTest {
    private static final String HEAD = "worth told;costs far;storm 1";

    public static void main(String[] args) {
        tapeOf160();
        words();
        numbers();
        signs();
        blanks();
        letters();
        eachByte();
        parts();
        partsAreWhole();
        orAnd();
        not();
        sum();
        oneCompare();
        minus();
        names();
        wrapping();
        truth();
        faultFirst();
        faultTooEarly();
        faultByte();
        faultWord();
        faultNumber();
        faultOpenBrackets();
        faultOpenNots();
        faultOpenMinus();
        faultOpenMixed();
        openEnds();
        textsNumbered();
        firstText();
        bounds();
        worthNames();
        costsNames();
        costsFar();
        stormNames();
        Due.end();
    }

    /** The place of a FAULT; the text has a mark (@) ahead of where it is due. */
    private static void fault(String marked) {
        int at = marked.indexOf('@');
        String text = marked.substring(0, at) + marked.substring(at + 1);
        Due.is("text of " + marked, Due.text(new HighWater(), text), -100 - at);
    }

    private static void faultInE(String marked) {
        fault("worth " + marked + ";costs 0;storm 0;");
        fault("worth 0;costs " + marked + ";storm 0;");
        fault("worth 0;costs 0;storm " + marked + ";");
    }

    private static void good(String text) {
        Due.is("text of " + text, Due.text(new HighWater(), text), 1);
    }

    /** told 80, height 7, more 6, far 5, tide 11, number 9 */
    private static void value(String e, int due) {
        HighWater x = new HighWater();
        Due.law(x, "worth " + e + ";costs " + e + ";storm " + e + ";");
        for (int part = 0; part < 3; part++) {
            Due.is(e + " in part " + part, x.asks(part, 80, 76, 5, 119), due);
        }
    }

    private static String ofSize(String text, int size) {
        StringBuilder all = new StringBuilder(text);
        while (all.length() < size) {
            all.append(' ');
        }
        return all.toString();
    }

    private static void tapeOf160() {
        Due.sentence("A TEXT is read from THE TAPE (160 bytes at most)");
        good(ofSize(HEAD + ";", 160));
        Due.is("159 blanks ahead", Due.text(new HighWater(), ofSize("", 159)), -259);
        // The last byte of all counts: a FAULT is at it, or the TEXT ends by it.
        fault(ofSize(HEAD + ";", 159) + "@?");
        Due.is("the end at the last byte", Due.text(new HighWater(), ofSize(HEAD, 159) + ";"), 1);
        fault(ofSize(HEAD, 160) + "@");
        fault(ofSize("", 160) + "@");
        HighWater x = new HighWater();
        Due.feed(x, ofSize("", 160));
        Due.is("no room for one more", x.feed(1, 32, 0, 0, 0, 0), HighWater.FULL);
    }

    private static void words() {
        Due.sentence("TOKENS, each as long as can be: WORDS (as many letters a .. z as stand there)");
        fault("@worthtold;costs far;storm 1;");
        fault("worth told;@costsfar;storm 1;");
        fault("worth told;costs far;@stormheight;");
        faultInE("1 @ornot 1");
        faultInE("@nottold");
        good("worth(told);costs-far;storm-1;");
        good("worth told or(1)and(2)or not(3);costs 1or(2);storm 3and 4or not-5;");
    }

    private static void numbers() {
        Due.sentence("NUMBERS (as many digits as stand there; more than 4 are too long)");
        value("9999 - 9990", 9);
        value("0000", 0);
        value("0042", 42);
        faultInE("@00001");
        faultInE("@10000");
        faultInE("@99999");
        faultInE("1 + @000000000000");
        faultInE("9999 @9");
        faultInE("9999 @0");
        good("worth 1or 2and 3;costs 4-5;storm 6*7;");
        faultInE("1@told");
    }

    private static void signs() {
        Due.sentence("SIGNS ( ) ; + - * < =");
        value("(3)", 3);
        value("3+4", 7);
        value("9-4", 5);
        value("3*4", 12);
        value("3<4", 1);
        value("3=3", 1);
        value("(3+4)*(9-7)=14", 1);
        // A SIGN is one byte: what would be another sign elsewhere is two.
        faultInE("3 =@= 3");
        faultInE("3 <@= 3");
        faultInE("3 <@< 3");
        faultInE("3 *@* 3");
        value("3--3", 6);
        value("3---3", 0);
    }

    private static void blanks() {
        Due.sentence("blanks (32, 10) may stand between");
        good(" \n worth \n\n told \n ; costs\nfar\n;\nstorm 1 ; \n ");
        good("worth\ntold\n;costs\nfar\n;storm\n1\n;");
        fault("worth @t old;costs far;storm 1;");
        faultInE("12 @34");
        faultInE("1 @\t");
        faultInE("1 @\r");
        faultInE("1 @" + (char) 11);
        faultInE("1 @" + (char) 31);
        faultInE("1 @" + (char) 33);
        faultInE("1 @" + (char) 160);
        faultInE("1 @" + (char) 9 + "+ 1");
    }

    private static void letters() {
        Due.sentence("letters a .. z (a and z, and the bytes beyond)");
        faultInE("@a");
        faultInE("@z");
        faultInE("@tolda");
        faultInE("@toldz");
        faultInE("@atold");
        faultInE("@ztold");
        faultInE("told@`");
        faultInE("told@{");
        faultInE("told@A");
        faultInE("told@Z");
        faultInE("@Told");
        faultInE("@TOLD");
        faultInE("1@/");
        faultInE("1@:");
    }

    /** Each byte behind all of a TEXT but its last SIGN. */
    private static void eachByte() {
        Due.sentence("also of a byte that begins none");
        for (int b = 0; b < 256; b++) {
            HighWater x = new HighWater();
            Due.feed(x, HEAD);
            int at = HEAD.length();
            x.feed(3, b, ';', ' ', 0, 0);
            boolean joins = b == 32 || b == 10 || b >= '0' && b <= '9';
            boolean goesOn = b == '+' || b == '-' || b == '*' || b == '<' || b == '=' || b == ';';
            Due.is("text with byte " + b, x.text(), joins ? 1 : goesOn ? -100 - at - 1 : -100 - at);
        }
    }

    private static void parts() {
        Due.sentence("TEXT: worth E ; costs E ; storm E ;");
        fault("@costs 1;worth 1;storm 1;");
        fault("worth 1;@storm 1;costs 1;");
        fault("worth 1;costs 1;@worth 1;");
        fault("worth 1;@worth 1;costs 1;storm 1;");
        fault(HEAD + ";@storm 1;");
        fault(HEAD + ";@worth 1;costs 1;storm 1;");
        fault(HEAD + ";@;");
        fault(HEAD + ";@1");
        fault("@;");
        fault("@1;");
        fault("@(worth 1);");
    }

    private static void partsAreWhole() {
        Due.sentence("each part has an E and its ;");
        fault("worth @;costs 1;storm 1;");
        fault("worth 1;costs @;storm 1;");
        fault("worth 1;costs 1;storm @;");
        fault("worth 1 @costs 1;storm 1;");
        fault("worth 1;costs 1 @storm 1;");
        fault("worth 1;costs 1;storm 1@");
        fault("worth @worth;costs 1;storm 1;");
        HighWater x = new HighWater();
        Due.law(x, "worth 11;costs 22;storm 33;");
        Due.is("worth", x.asks(0, 0, 0, 0, 0), 11);
        Due.is("costs", x.asks(1, 0, 0, 0, 0), 22);
        Due.is("storm", x.asks(2, 0, 0, 0, 0), 33);
    }

    private static void orAnd() {
        Due.sentence("E: AND { or AND }. AND: NOT { and NOT }");
        value("0 or 0 or 0 or 3", 1);
        value("3 and 3 and 3 and 0", 0);
        value("3", 3);
        value("1 or 1 and 0", 1);
        value("0 and 1 or 1", 1);
        value("(1 or 1) and 0", 0);
        value("0 and (1 or 1)", 0);
        faultInE("@or");
        faultInE("1 or @");
        faultInE("1 and @");
        faultInE("1 or @and 1");
        faultInE("@and 1");
    }

    private static void not() {
        Due.sentence("NOT: not NOT, or SUM");
        value("not 0", 1);
        value("not 1", 0);
        value("not not 5", 1);
        value("not not 0", 0);
        value("not 1 = 2", 1);
        value("not 0 and 0", 0);
        value("not 1 or 1", 1);
        faultInE("not @");
        faultInE("1 @not 1");
        faultInE("1 = @not 1");
        faultInE("1 + @not 1");
        faultInE("1 * @not 1");
        faultInE("-@not 1");
        value("1 + (not 1)", 1);
    }

    private static void sum() {
        Due.sentence("SUM: TERM { + or - TERM }. TERM: ONE { * ONE }");
        value("20 - 5 - 4 - 3", 8);
        value("20 - 5 + 4", 19);
        value("2 + 3 * 4 - 5", 9);
        value("2 * 3 + 4 * 5", 26);
        value("2 * 3 * 4", 24);
        value("100 - 2 * 3 * 4 - 1", 75);
        faultInE("2 * @+ 3");
        faultInE("2 + @* 3");
        faultInE("2 - @* 3");
        faultInE("2 * @");
        faultInE("2 + @");
    }

    private static void oneCompare() {
        Due.sentence("perhaps < or = and a SUM");
        value("1 < 2", 1);
        value("2 < 2", 0);
        value("3 < 2", 0);
        value("2 = 2", 1);
        value("2 = 3", 0);
        value("1 + 1 < 1 + 2", 1);
        value("0 - 1 < 0", 1);
        faultInE("1 < 2 @< 3");
        faultInE("1 = 1 @= 1");
        faultInE("1 < 2 @= 1");
        faultInE("1 = 1 @< 2");
        faultInE("1 < @");
        faultInE("@< 1");
        faultInE("@= 1");
        value("(1 < 2) < 3", 1);
        value("1 < 2 and 3 < 4", 1);
        value("1 < 2 or 4 < 3", 1);
    }

    private static void minus() {
        Due.sentence("ONE: a NUMBER, a NAME, - ONE, ( E )");
        value("0 - - 7", 7);
        value("- - 7", 7);
        value("- 2 * - 3", 6);
        value("- (0 - 7)", 7);
        value("9 + - 7", 2);
        value("9 * - 1 + 10", 1);
        value("- told + told", 0);
        value("((told))", 80);
        value("(1 or 0)", 1);
        value("(1 < 2)", 1);
        value("- - - - - 1 + 2", 1);
        faultInE("(@)");
        faultInE("- @");
        faultInE("- - @");
        faultInE("(1 @(2))");
    }

    private static void names() {
        Due.sentence("NAMES: told height more far tide number");
        value("told", 80);
        value("height", 7);
        value("more", 6);
        value("far", 5);
        value("tide", 11);
        value("number", 9);
        for (String name : new String[] {"told", "height", "more", "far", "tide", "number"}) {
            faultInE("@" + name + "s");
            faultInE("@" + name.substring(1));
            faultInE("@" + name.substring(0, name.length() - 1));
            faultInE("@x" + name);
            fault("@" + name + " 1;costs 1;storm 1;");
        }
        for (String key : new String[] {"worth", "costs", "storm", "or", "and"}) {
            faultInE("@" + key);
            faultInE("1 + @" + key);
        }
        for (String other : new String[] {"kind", "rises", "high", "tell", "tides", "numbe", "farm"}) {
            faultInE("@" + other);
        }
    }

    private static void wrapping() {
        Due.sentence("An E is an int (32 bits, wrapping)");
        String most = "((4096*8)*(4096*16)-1)";
        String least = "(4096*8)*(4096*16)";
        value(least + " < 0", 1);
        value(most + " < 0", 0);
        value(most + "+1 < 0", 1);
        value(most + "+1 = " + least, 1);
        value("-" + most + "-1 = " + least, 1);
        value("-(" + least + ") = " + least, 1);
        value("-(" + least + ") < 0", 1);
        value(least + " - 1 < 0", 0);
        value("(4096*16)*(4096*16)", 0);
        value("(4096*16)*(4096*16)+8", 8);
        value(most + "*2 = 0-2", 1);
        // What is less is less, however far apart the two are.
        value(least + " < 1", 1);
        value(most + " < - 1", 0);
        value("- 2 < " + most, 1);
        value("2 < " + least, 0);
        // A bound holds for what has wrapped.
        value("(4096*8)*(4096*16)", 0);
        HighWater x = new HighWater();
        Due.law(x, "worth " + most + ";costs " + most + ";storm " + most + ";");
        Due.is("worth", x.asks(0, 0, 0, 0, 0), 99);
        Due.is("costs", x.asks(1, 0, 0, 0, 0), 99);
        Due.is("storm", x.asks(2, 0, 0, 0, 0), 100);
    }

    private static void truth() {
        Due.sentence("of or, and, not, <, = 1 or 0 (what is not 0 is true)");
        value("- 1 or 0", 1);
        value("0 or - 1", 1);
        value("7 or 0", 1);
        value("0 or 0", 0);
        value("- 1 and - 1", 1);
        value("7 and 9", 1);
        value("7 and 0", 0);
        value("0 and 7", 0);
        value("8 and 4", 1);
        value("not - 1", 0);
        value("not 2", 0);
        value("(4096*8)*(4096*16) and 1", 1);
        value("(4096*16)*(4096*16) or 0", 0);
        value("(5 = 5) + (4 < 5) + (not 0)", 3);
        value("(2 or 2) + (2 and 2)", 2);
    }

    private static void faultFirst() {
        Due.sentence("the place of the first byte of the first TOKEN that can't stand there");
        fault("worth @or ? 12345;");
        fault("worth @? or;");
        fault("worth 1 @told foo;");
        fault("worth 1;@cost 1;stor 1;");
        fault("   @;");
        fault("worth   @)   )");
        fault("worth told   @12");
        fault("worth told\n\n@height;");
    }

    private static void faultTooEarly() {
        Due.sentence("the text's size, if it ends too early");
        fault("@");
        fault(" @");
        fault("\n\n\n@");
        fault("worth@");
        fault("worth @");
        fault("worth told@");
        fault("worth told;@");
        fault("worth told;costs@");
        fault("worth told;costs far@");
        fault("worth told;costs far;@");
        fault("worth told;costs far;storm@");
        fault(HEAD + "@");
        fault(HEAD + "   \n@");
        fault("worth (@");
        fault("worth (1@");
        fault("worth -@");
        fault("worth not@");
        fault("worth 1 +@");
        fault("worth 1 <@");
        fault("worth 1 or@");
        fault("worth ((((( @");
    }

    private static void faultByte() {
        Due.sentence("also of a byte that begins none (where a TOKEN may stand, or none)");
        faultInE("@?");
        faultInE("1 @?");
        faultInE("1 + @?");
        faultInE("(1 @?)");
        faultInE("told@?");
        fault("@?");
        fault("@\t" + HEAD + ";");
        fault(HEAD + ";@\t");
        fault(HEAD + ";  @" + (char) 0);
        fault(HEAD + ";@" + (char) 255);
        fault("@wor?th told;");
    }

    private static void faultWord() {
        Due.sentence("of a WORD that is neither KEY nor NAME");
        faultInE("@x");
        faultInE("1 @x");
        faultInE("1 + @xyz");
        faultInE("(1 @orr 1)");
        faultInE("not @tolds");
        fault("@wort told;");
        fault("@worths told;");
        fault("worth told;@cost far;");
        fault("worth told;costs far;@stormy 1;");
        fault(HEAD + ";@end");
    }

    private static void faultNumber() {
        Due.sentence("a NUMBER that is too long");
        faultInE("@12345");
        faultInE("told + @12345");
        faultInE("told @12345");
        faultInE("(@12345)");
        faultInE("-@00000");
        fault("worth @12345");
        fault("@12345");
    }

    private static void faultOpenBrackets() {
        Due.sentence("a ( while 5 of these are open (a ( till its ) )");
        good("worth (((((1)))));costs (((((far)))));storm (((((height)))))*2;");
        faultInE("(((((@(1))))))");
        faultInE("(((((1 + @(2))))))");
        faultInE("(((((@(");
        // Closed ones are not open.
        good("worth (((((1)))))+(((((2)))));costs (1)+(2)+(3)+(4)+(5)+(6);storm ((((1)+(2))+(3))+(4));");
        faultInE("(1)+(((((@(2))))))");
        good("worth ((((1)+(2))))+(((((1)))))*0;costs 1;storm 1;");
    }

    private static void faultOpenNots() {
        Due.sentence("a not while 5 of these are open (till what it belongs to ends)");
        good("worth not not not not not 1;costs 1;storm 1;");
        faultInE("not not not not not @not 1");
        faultInE("not not not not not @not");
        good("worth not not not not not 1 and not not not not not 1;costs 1;storm 1;");
        good("worth not not not not not 1 or not not not not not 1;costs 1;storm 1;");
        // What a not belongs to goes on behind < and =.
        faultInE("not not not not not 1 < @-2");
        faultInE("not not not not not 1 = @(2)");
        good("worth not not not not not 1 < 2 and -3;costs 1;storm 1;");
        faultInE("not not not not not 1 + @-2");
    }

    private static void faultOpenMinus() {
        Due.sentence("a - ahead of a ONE while 5 of these are open (till what it belongs to ends)");
        good("worth -----1;costs - - - - - far;storm 1;");
        faultInE("-----@-1");
        faultInE("- - - - - @- 1");
        faultInE("-----@-");
        // A - between TERMS is none of these, and a ONE ends ahead of *, + and -.
        good("worth 1------1;costs 1 - - - - - - 1;storm 1-1-1-1-1-1-1;");
        faultInE("1------@-1");
        good("worth -----1-----1;costs -----1*-----1;storm -----1+-----1;");
        good("worth -1*-1*-1*-1*-1*-1*-1;costs -1--1--1--1--1--1--1;storm 1;");
    }

    private static void faultOpenMixed() {
        Due.sentence("a ( , a not, a - ahead of a ONE while 5 of these are open");
        good("worth (not(-(1)));costs not(not(-1));storm -(-(-1));");
        faultInE("(not(-(@-1)))");
        faultInE("(not(-(@(1))))");
        faultInE("(not(((@not 1))))");
        faultInE("((not -(@-1)))");
        faultInE("((not (not @-1)))");
        faultInE("not not not (-@(1))");
        faultInE("not (not (not @(1)))");
        faultInE("-(-(-@-1))");
        faultInE("-(-(-@(1)))");
    }

    private static void openEnds() {
        Due.sentence("a ( till its ) , not and - till what they belong to ends");
        good("worth (not(-(1)) + -1);costs ((not 1) + (not 1) + (not 1) + (not 1));storm 1;");
        good("worth ((((not 1)))) + ((((not 1))));costs ((((-1)))) + ((((-1))));storm 1;");
        good("worth not((((1)))) and not((((1))));costs -((((1)))) - -((((1))));storm 1;");
        // What was open at a FAULT is not for the next TEXT.
        HighWater x = new HighWater();
        Due.is("five open", Due.text(x, "worth (((((;"), -111);
        Due.is("five once more", Due.text(x, "worth (((((1)))));costs 1;storm 1;"), 1);
        Due.is("five open", Due.text(x, "worth not-not;"), -110);
        Due.is("five once more", Due.text(x, "worth -----1;costs not not not not not 1;storm 1;"), 2);
    }

    private static void textsNumbered() {
        Due.sentence("TEXTS are numbered from 0 on, 6 at most");
        HighWater x = new HighWater();
        for (int k = 1; k < 6; k++) {
            Due.is("text", Due.text(x, "worth " + k + ";costs 0;storm 0;"), k);
            Due.is("count(2)", x.count(2), k + 1);
            Due.is("a FAULT makes none", Due.text(x, k < 5 ? "worth" : ""), k < 5 ? -105 : -4);
        }
        Due.is("a seventh", Due.text(x, HEAD + ";"), HighWater.FULL);
        Due.is("count(2)", x.count(2), 6);
        for (int k = 0; k < 6; k++) {
            x.force(k);
            Due.is("worth of text " + k, x.asks(0, 0, 0, 0, 0), k);
        }
    }

    private static void firstText() {
        Due.sentence("TEXT 0, at first, and THE LAW: worth told ; costs far ; storm height * 2");
        HighWater x = new HighWater();
        Due.is("count(2)", x.count(2), 1);
        Due.is("count(3)", x.count(3), 0);
        Due.is("count(4)", x.count(4), 0);
        for (int v = 0; v < 100; v++) {
            Due.is("worth", x.asks(0, v, 99, 9, 119), v);
            Due.is("costs", x.asks(1, 99, 99, v % 10, 119), v % 10);
            Due.is("storm", x.asks(2, 99, v, 9, 119), v / 10 * 2);
        }
    }

    private static void bounds() {
        Due.sentence("(worth, costs 0 .. 99, storm 0 .. 100 of a hundred, else the bound)");
        int[] said = {-9999, -2, -1, 0, 1, 98, 99, 100, 101, 102, 9999};
        for (int v : said) {
            HighWater x = new HighWater();
            String e = v < 0 ? "-" + -v : "" + v;
            Due.law(x, "worth " + e + ";costs " + e + ";storm " + e + ";");
            int low = Math.max(v, 0);
            Due.is("worth " + e, x.asks(0, 0, 0, 0, 0), Math.min(low, 99));
            Due.is("costs " + e, x.asks(1, 0, 0, 0, 0), Math.min(low, 99));
            Due.is("storm " + e, x.asks(2, 0, 0, 0, 0), Math.min(low, 100));
        }
    }

    /** The last of six ISLANDS, all numbers of it different. */
    private static HighWater last() {
        HighWater x = Due.bay(1);
        for (int i = 0; i < 5; i++) {
            x.island(0, 1, 1, 1);
        }
        x.island(0, 77, 6, 3);
        x.tide(10, 8);
        return x;
    }

    private static void worthNames() {
        Due.sentence("height: how HIGH the TIDE is; tide: its number; number: the ISLAND's. worth: TOLD; MORE; far 0");
        int[] due = {77, 8, 3, 0, 10, 5};
        String[] names = {"told", "height", "more", "far", "tide", "number"};
        for (int k = 0; k < 6; k++) {
            HighWater x = last();
            Due.law(x, "worth " + names[k] + ";costs 99;storm 99;");
            Due.is("worth " + names[k], x.then(5, 10, 0), due[k]);
        }
    }

    private static void costsNames() {
        Due.sentence("costs: told, more 0; number: of the one that is gone to; height, tide: of the TIDE gone at");
        int[] due = {0, 8, 0, 4, 10, 5};
        String[] names = {"told", "height", "more", "far", "tide", "number"};
        for (int k = 0; k < 6; k++) {
            HighWater x = last();
            x.tide(9, 1);
            x.go(0, 9, 1);
            x.go(0, 10, 5);
            Due.law(x, "worth 99;costs " + names[k] + ";storm 99;");
            Due.is("costs " + names[k], x.costs(0, 10), due[k]);
            Due.is("best by it", x.best(0, 10, 1), 99);
            x.go(0, 9, -1);
            Due.is("costs " + names[k] + " from the SHORE", x.costs(0, 10), k == 3 ? 6 : due[k]);
        }
    }

    private static void costsFar() {
        Due.sentence("far: how far the two ISLANDS' numbers are; from the SHORE 1 and the number");
        for (int from = -1; from < 6; from++) {
            HighWater x = last();
            x.go(0, 9, from);
            for (int to = -1; to < 6; to++) {
                x.go(0, 10, to);
                int far = from < 0 ? 1 + to : Math.max(from, to) - Math.min(from, to);
                Due.is("costs from " + from + " to " + to, x.costs(0, 10), to < 0 ? 0 : far);
                x.go(0, 0, to);
                Due.is("costs at TIDE 0 to " + to, x.costs(0, 0), to < 0 ? 0 : 1 + to);
            }
        }
    }

    private static void stormNames() {
        Due.sentence("storm: told, more, far 0");
        int[] due = {0, 8, 0, 0, 10, 5};
        String[] names = {"told", "height", "more", "far", "tide", "number"};
        for (int k = 0; k < 6; k++) {
            HighWater x = last();
            x.go(0, 9, 1);
            x.go(0, 10, 5);
            // 6 is the first LOT of SEED 99999: kept, if storm is 7 or more.
            Due.law(x, "worth 99;costs 99;storm " + names[k] + " + 7 - " + due[k] + ";");
            Due.is("storm " + names[k] + " and as much as is enough", x.drawn(99999, 0, 10, 0), 1);
            Due.law(x, "worth 99;costs 99;storm " + names[k] + " + 6 - " + due[k] + ";");
            Due.is("storm " + names[k] + " and 1 less", x.drawn(99999, 0, 10, 0), 0);
        }
    }
}
