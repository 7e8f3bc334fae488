/** How a TEXT is read, where its FAULT is, and what an E is. */
public final class TextTest {
    public static void main(String[] args) {
        faults();
        openFaults();
        nextText();
        goodTexts();
        values();
        wrapping();
        Due.end();
    }

    /** The place of a FAULT; the text has a mark (@) ahead of where it is due. */
    private static void fault(String marked) {
        int at = marked.indexOf('@');
        String text = marked.substring(0, at) + marked.substring(at + 1);
        Due.is("fault of " + marked, Due.text(new HighWater(), text), -100 - at);
    }

    private static void faultInE(String marked) {
        fault("worth " + marked + "; costs 0; storm 0;");
        fault("worth 0; costs " + marked + "; storm 0;");
        fault("worth 0; costs 1; storm " + marked + ";");
    }

    private static void good(String text) {
        Due.is("text " + text, Due.text(new HighWater(), text), 1);
    }

    private static void faults() {
        fault("@");
        fault("  \n@");
        fault("@costs 1;");
        fault("@1");
        fault("@told");
        fault("worth@");
        fault("worth  @");
        fault("worth @;");
        fault("worth told@");
        fault("worth told @costs");
        fault("worth told;@");
        fault("worth told; @storm 1;");
        fault("worth told; @worth 1;");
        fault("worth told; costs@");
        fault("worth told; costs far; @costs 1;");
        fault("worth told; costs far; storm 1@");
        fault("worth told; costs far; storm 1  @");
        fault("worth told; costs far; storm 1; @;");
        fault("worth told; costs far; storm 1; @worth");
        fault("worth told; costs far; storm 1;@?");
        fault("@worthtold;");
        fault("@wort told;");
        fault("@worths told;");
        fault("@Worth told;");
        fault("worth told; costs far; storm 1; @\t");
        fault("worth told; costs far; storm 1;@\r");
        fault("worth @" + (char) 233 + ";");
        fault("worth @" + (char) 0 + ";");
        fault("worth @" + (char) 255 + ";");
        faultInE("@or 1");
        faultInE("@and 1");
        faultInE("@* 1");
        faultInE("@+ 1");
        faultInE("@< 1");
        faultInE("@)");
        faultInE("(@)");
        faultInE("1 @1");
        faultInE("1 @told");
        faultInE("told @told");
        faultInE("told@1");
        faultInE("1 @(2)");
        faultInE("(1 @");
        faultInE("(1) @)");
        faultInE("1 < 2 @< 3");
        faultInE("1 = 2 @= 3");
        faultInE("1 < 2 @= 3");
        faultInE("not 1 < 2 @< 3");
        faultInE("1 @not 2");
        faultInE("1 + @not 2");
        faultInE("1 < @not 2");
        faultInE("- @not 2");
        faultInE("1 + @+ 2");
        faultInE("1 * @* 2");
        faultInE("1 - @* 2");
        faultInE("1 or @or 2");
        faultInE("1 and @or 2");
        faultInE("not@");
        faultInE("1 <@");
        faultInE("1 < @= 2");
        faultInE("@12345");
        faultInE("@00000");
        faultInE("@toldd");
        faultInE("@tol");
        faultInE("@t");
        faultInE("@tolda");
        faultInE("@toldz");
        faultInE("1 + @zt");
        faultInE("- @foo 1");
        faultInE("(@foo 1)");
        faultInE("not @nott 1");
        faultInE("told @foo told");
        faultInE("1 + @foo 1");
        faultInE("@numbers");
        faultInE("@nott");
        faultInE("1 @ands 2");
        faultInE("@worth");
        faultInE("@costs");
        faultInE("@storm");
        faultInE("1 @/ 2");
        faultInE("1 @> 2");
        faultInE("1 @! 2");
        faultInE("@{1");
        faultInE("1 @, 2");
        faultInE("1@`");
        faultInE("1@{");
        faultInE("1@:");
        faultInE("@/1");
        faultInE("1 @99999");
        faultInE("1 @Z");
    }

    private static void openFaults() {
        faultInE("(((((@(1))))))");
        faultInE("not not not not not @not 1");
        faultInE("- - - - - @- 1");
        faultInE("(not (-(@-1)))");
        faultInE("(not -(1 + -@(1)))");
        faultInE("not ((not (1 = @--1)))");
        faultInE("not not not not not 1 < @(2)");
        faultInE("not not not not not 1 + @-2");
        faultInE("(((((1))))) + (((((@(2))))))");
        good("worth (((((1))))) + (((((2))))) ;costs - - - - - 1;storm not not not not not 1;");
        good("worth (1) + (1) + (1) + (1) + (1) + (1) + (1) ;costs -1+-1+-1+-1+-1+-1+-1*-1;storm 0;");
        good("worth not 1 and not 1 or not 1 and not 1 and not 1 and not 1 and not 1;costs 0;storm 0;");
        good("worth ((((-1))));costs ((((not 1))));storm ((((1))))*(-(-(1)));");
        good("worth not not not not not 1 and not not not not not 1;costs (((((1)))))<(((((1)))));storm 0;");
        good("worth - - - - - 1 * - - - - - 1;costs -1*(((((1)))));storm 0;");
    }

    /** What was open when a FAULT was met is no longer open for the next TEXT. */
    private static void nextText() {
        HighWater x = new HighWater();
        Due.is("a fault in five", Due.text(x, "worth (((((;"), -111);
        Due.is("five again", Due.text(x, "worth (((((1)))));costs - - - - - 1;storm not not not not not 1;"), 1);
        Due.is("a fault behind a sign", Due.text(x, "worth 1 - ;"), -110);
        Due.is("nothing", Due.text(x, ""), -100);
        Due.is("another one", Due.text(x, "worth 3;costs 4;storm 5;"), 2);
        x.force(2);
        Due.is("worth", x.asks(0, 0, 0, 0, 0), 3);
        Due.is("costs", x.asks(1, 0, 0, 0, 0), 4);
        Due.is("storm", x.asks(2, 0, 0, 0, 0), 5);
        x.force(1);
        Due.is("worth of the first", x.asks(0, 0, 0, 0, 0), 1);
    }

    private static void goodTexts() {
        good("worth told ; costs far ; storm height * 2 ;");
        good("worth told;costs far;storm height*2;");
        good("  \n worth\n\ntold ; \n costs far ;\nstorm\nheight * 2 ;  \n");
        good("worth9999;costs0000;storm(told);");
        good("worth-told;costs1-1;storm1- -1;");
        good("worth told+height+more+far+tide+number;costs 1or 2;storm 1and 2;");
        good("worth(told)and(told)or not(told);costs 0;storm 0;");
        // A text as long as the tape.
        StringBuilder sums = new StringBuilder("worth 1");
        while (sums.length() < 140) {
            sums.append("+1");
        }
        sums.append(";costs 0;storm 0;");
        while (sums.length() < 160) {
            sums.append(' ');
        }
        good(sums.toString());
    }

    private static void value(String e, int due) {
        HighWater x = new HighWater();
        Due.law(x, "worth " + e + ";costs " + e + ";storm " + e + ";");
        for (int part = 0; part < 3; part++) {
            Due.is(e, x.asks(part, 80, 76, 5, 43), due);
        }
    }

    /** told 80, height 7, more 6, far 5, tide 4, number 3 */
    private static void values() {
        value("told", 80);
        value("height", 7);
        value("more", 6);
        value("far", 5);
        value("tide", 4);
        value("number", 3);
        value("1 + 2 * 3", 7);
        value("(1 + 2) * 3", 9);
        value("2 * 3 + 1", 7);
        value("10 - 3 - 2", 5);
        value("10 - (3 - 2)", 9);
        value("2 * 3 * 4", 24);
        value("0007", 7);
        value("- 3 + 5", 2);
        value("5 + - 3", 2);
        value("5 - - 3", 8);
        value("- 3 * - 4", 12);
        value("- - 3", 3);
        value("-(2 - 9)", 7);
        value("1 < 2", 1);
        value("2 < 2", 0);
        value("3 < 2", 0);
        value("2 = 2", 1);
        value("2 = 3", 0);
        value("1 + 1 = 2", 1);
        value("1 + (1 = 2)", 1);
        value("(1 < 2) + (2 = 2)", 2);
        value("-1 < 0", 1);
        value("not 0", 1);
        value("not 7", 0);
        value("not not 7", 1);
        value("not 1 = 2", 1);
        value("not 1 < 2", 0);
        value("not 2 + 3", 0);
        value("(not 2) + 3", 3);
        value("7 and 9", 1);
        value("7 and 0", 0);
        value("0 and 7", 0);
        value("0 or 0", 0);
        value("0 or 5", 1);
        value("5 or 0", 1);
        value("5 or 5", 1);
        value("-1 and -1", 1);
        value("1 or 0 and 0", 1);
        value("(1 or 0) and 0", 0);
        value("0 and 0 or 1", 1);
        value("0 and (0 or 1)", 0);
        value("not 0 and 0", 0);
        value("not (0 and 0)", 1);
        value("not 0 or 1", 1);
        value("1 and 1 and 1", 1);
        value("1 and 1 and 0", 0);
        value("0 or 0 or 1", 1);
        value("2 < 3 and 3 < 4", 1);
        value("(2 < 3) = 1 and 1", 1);
        value("told - height * more - far * tide - number", 80 - 42 - 20 - 3);
        value("(told = 80) * 20 + (number < tide) * 2", 22);
        // A part says its own.
        HighWater x = new HighWater();
        Due.law(x, "worth told - 1; costs far + 2; storm height * 9;");
        Due.is("worth", x.asks(0, 80, 76, 5, 43), 79);
        Due.is("costs", x.asks(1, 80, 76, 5, 43), 7);
        Due.is("storm", x.asks(2, 80, 76, 5, 43), 63);
    }

    private static void wrapping() {
        // 65536 * 65536 is 0 in 32 bits, 46341 * 46341 is below 0.
        value("(4096*16)*(4096*16)+9", 9);
        value("(9999*4+6345)*(9999*4+6345) < 0", 1);
        value("(4096*8)*(4096*16) < 0", 1);
        value("(4096*8)*(4096*16) - 1 < 0", 0);
        value("-((4096*8)*(4096*16)) < 0", 1);
        value("9999*9999*9999*9999 = 9999*9999*9999*9999", 1);
        value("(4096*16)*(4096*16) or 0", 0);
    }
}
