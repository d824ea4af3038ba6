/** Each promise by its number: ordinary calls, the edges that the document names, and wrong calls. */
public final class PromisesTest {
    private static final String TWO = "court 2 5;family 10;family 4;line 0 1 6 9;line 1 2 3 20;linen 0 3 4;linen 1 2 5;"
        + "linen 0 1 0;linen 1 2 3;hung 0 0;hung 1 0;rain 2 2";
    private static int wrong;

    public static void main(String[] args) {
        newObject();
        tape();
        courts();
        courtFaults();
        rules();
        ruleFaults();
        ruleWords();
        ruleArithmetic();
        ruleTests();
        rulesInForce();
        tellings();
        hours();
        hands();
        cutting();
        undoing();
        lookingAhead();
        hangingMost();
        games();
        sets();
        ways();
        loads();
        worths();
        logs();
        looks();
        laws();
        years();
        counts();
        images();
        System.out.println(wrong == 0 ? "all promises are kept" : wrong + " answers are not as due");
        if (wrong != 0) {
            System.exit(1);
        }
    }

    private static void due(String promise, long got, long want) {
        if (got != want) {
            wrong++;
            System.out.println("promise " + promise + ": answered " + got + ", due is " + want);
        }
    }

    private static void bring(WashingLines x, String text) {
        x.end(0);
        for (int[] r : Texts.rows(text)) {
            x.feed(r[0], r[1], r[2], r[3], r[4]);
        }
        x.end(text.length());
    }

    private static int court(WashingLines x, String text) {
        bring(x, text);
        return x.court();
    }

    private static int rule(WashingLines x, String text) {
        bring(x, text);
        return x.rule();
    }

    private static WashingLines with(String court) {
        WashingLines x = new WashingLines();
        if (court(x, court) < 0) {
            wrong++;
            System.out.println("refused: " + court);
        }
        return x;
    }

    /** What a court or a rule answers for a fault at a place. */
    private static int fault(int place, int kind) {
        return -2 - (1 + 8 * place + kind);
    }

    private static void newObject() {
        WashingLines x = new WashingLines();
        due("1 NONE", WashingLines.NONE, -1);
        for (int what = 0; what < 15; what++) {
            due("1 count " + what, x.count(what), what == 6 ? -1 : 0);
        }
        due("1 force", x.force(0), -2);
        due("1 back", x.back(0), -1);
        due("1 undo", x.undo(), -2);
    }

    private static void tape() {
        WashingLines x = new WashingLines();
        for (int i = 1; i <= 20; i++) {
            due("2", x.feed(0x20202020, 0x20202020, 0x20202020, 0x20202020, 0x20202020), 20 * i);
        }
        due("2 full", x.feed(1, 2, 3, 4, 5), -1);
        due("2 full", x.count(14), 400);
        due("3", x.end(400), 400);
        due("3 too many", x.end(401), -1);
        due("3 below 0", x.end(-1), -1);
        due("3 empty", new WashingLines().end(0), 0);
        due("3 empty", new WashingLines().end(1), -1);
        due("3", x.end(381), 381);
        due("2 over", x.feed(1, 2, 3, 4, 5), -1);
        due("3", x.end(380), 380);
        due("3 was cut", x.end(381), -1);
        due("2", x.feed(0x20202020, 0x20202020, 0x20202020, 0x20202020, 0x20202020), 400);
        due("4 blanks alone: the end is behind them", x.court(), fault(400, 0));
        due("4 the tape is empty then", x.count(14), 0);
        x.feed(0x636F7572, 0x74203120, 0x31FFFFFF, -1, -1);
        due("2 highest byte first", x.end(9), 9);
        due("2 highest byte first", x.court(), 0);
        x.feed(0x636F7572, 0x74203120, 0x31FFFFFF, -1, -1);
        due("2 bytes up to 255", x.court(), fault(9, 0));
    }

    private static void courts() {
        WashingLines x = new WashingLines();
        due("4", court(x, "court 1 20"), 0);
        due("4 sun", x.count(0), 1);
        due("4 soak", x.count(1), 20);
        due("4 blanks", court(x, "  court   00005 1 ;family 0;  line 7 0 9 99;line 0 7 1 1  "), 2);
        due("4 no blank needed ahead of a number", court(x, "court5 1;family20"), 0);
        due("4 pegs", x.family(0, 0), 20);
        due("4 all there can be", court(x, "court 1 1;family 20;family 20;family 20;family 20;line 0 1 9 9;line 0 1 9 9;"
            + "line 0 1 9 9;line 0 1 9 9;line 0 1 9 9;line 0 1 9 9;linen 0 4 20;linen 1 4 20;linen 2 4 20;linen 3 4 20;"
            + "linen 0 1 0;linen 0 1 0;linen 0 1 0;linen 0 1 0;linen 0 1 0;linen 3 1 0;rain 0 99;rain 99 99;rain 0 0"), 6);
        due("4 linen", x.count(4), 10);
        due("4 rain", x.count(10), 1);
        x = with(TWO);
        rule(x, "claim cells");
        x.force(0);
        x.seed(7);
        x.log(0, 0, 0);
        x.image(2);
        x.hour();
        due("4 a fault", court(x, "court 1 1;"), fault(10, 0));
        due("4 all else stays", x.count(7), 1);
        due("4 all else stays", x.count(11), 1);
        due("4 all else stays", x.count(12), 1);
        due("4 in place", court(x, "court 3 4;family 2;line 1 2 3 4"), 1);
        due("4 hour", x.count(7), 0);
        due("4 no logs", x.count(11), 0);
        due("4 nothing to undo", x.undo(), -2);
        due("4 in force stays", x.count(6), 0);
        due("4 x stays", x.count(13), 7);
        due("4 images stay", x.back(2), 0);
        due("35 the court of the image", x.count(3), 2);
    }

    private static void courtFault(String text, int place, int kind) {
        WashingLines x = new WashingLines();
        due("4 '" + text + "'", court(x, text), fault(place, kind));
    }

    private static void courtFaults() {
        courtFault("", 0, 0);
        courtFault("  ", 2, 0);
        courtFault(" family 1", 1, 4);
        courtFault("family", 0, 4);
        courtFault("Court 1 1", 0, 0);
        courtFault("courts 1 1", 0, 0);
        courtFault("claim 1", 0, 0);
        courtFault("court", 5, 0);
        courtFault("court ; 1", 6, 0);
        courtFault("court 0 1", 6, 1);
        courtFault("court 6 1", 6, 1);
        courtFault("court 000001 1", 6, 1);
        courtFault("court 1 0", 8, 1);
        courtFault("court 1 21", 8, 1);
        courtFault("court 1 1 1", 10, 0);
        courtFault("court 1 1 123456", 10, 0);
        courtFault("court 1 -1", 8, 0);
        courtFault("court 1 1;", 10, 0);
        courtFault("court 1 1; ", 11, 0);
        courtFault("court 1 1;;family 1", 10, 0);
        courtFault("court 1 1;court 1 1", 10, 4);
        courtFault("court 1 1;family 21", 17, 1);
        courtFault("court 1 1;family x", 17, 0);
        courtFault("court 1 1;family 1;family 1;family 1;family 1; family 99", 47, 4);
        courtFault("court 1 1;line 8 0 1 1", 15, 1);
        courtFault("court 1 1;line 0 8 1 1", 17, 1);
        courtFault("court 1 1;line 3 3 1 1", 17, 1);
        courtFault("court 1 1;line 3 3", 17, 1);
        courtFault("court 1 1;line 3 4", 18, 0);
        courtFault("court 1 1;line 3 4 0 1", 19, 1);
        courtFault("court 1 1;line 3 4 10 1", 19, 1);
        courtFault("court 1 1;line 3 4 1 0", 21, 1);
        courtFault("court 1 1;line 3 4 1 100", 21, 1);
        courtFault("court 1 1;linen 0 1 1", 16, 1);
        courtFault("court 1 1;family 1;linen 1 1 1", 25, 1);
        courtFault("court 1 1;family 1;linen 0 0 1", 27, 1);
        courtFault("court 1 1;family 1;linen 0 5 1", 27, 1);
        courtFault("court 1 1;family 1;linen 0 1 21", 29, 1);
        courtFault("court 1 1;hung 0 0", 15, 1);
        String hung = "court 1 1;family 3;line 0 1 3 1;linen 0 2 1;linen 0 2 1;linen 0 1 1";
        courtFault(hung + ";hung 3 0", hung.length() + 6, 1);
        courtFault(hung + ";hung 0 1", hung.length() + 8, 1);
        courtFault(hung + ";hung 0 0;hung 0 0", hung.length() + 17, 1);
        courtFault(hung + ";hung 0 0;hung 1 0", hung.length() + 17, 1);
        courtFault(hung + ";hung 0 0;hung 2 0", hung.length() + 17, 1);
        courtFault("court 1 1;linen 0 1 1;family 1", 16, 1);
        courtFault("court 1 1;rain 100 100", 15, 1);
        courtFault("court 1 1;rain 5 4", 17, 1);
        courtFault("court 1 1;rain 5 100", 17, 1);
        courtFault("court 1 1;rain 0 0;rain 0 0;rain 0 0;rain 0 0", 37, 4);
        StringBuilder many = new StringBuilder("court 1 1;family 1");
        for (int i = 0; i < 6; i++) {
            many.append(";line 0 1 1 1");
        }
        courtFault(many + ";line", many.length() + 1, 4);
        for (int i = 0; i < 10; i++) {
            many.append(";linen 0 1 1");
        }
        courtFault(many + ";linen 9", many.length() + 1, 4);
        courtFault(many + ";lined 9", many.length() + 1, 0);
        courtFault("court 1 1\tfamily", 9, 0);
        courtFault("court 1 1;family 1 if", 19, 0);
    }

    private static void rules() {
        WashingLines x = new WashingLines();
        for (int i = 0; i < 6; i++) {
            due("5", rule(x, "claim " + i), i);
        }
        due("5 without a court", x.count(5), 6);
        bring(x, "claim");
        due("5 there are 6", x.rule(), -1);
        due("5 nothing happens", x.count(14), 5);
        x = new WashingLines();
        due("5 a fault", rule(x, "claim"), fault(5, 0));
        due("5 the tape is empty then", x.count(14), 0);
        due("5 no rule", x.count(5), 0);
        due("5 twelve clauses", rule(x, "claim 1" + ";claim 1".repeat(11)), 0);
        due("5 sixty values", rule(x, "claim 1" + "+1".repeat(59)), 1);
        due("5 sixty in two clauses", rule(x, "claim 1" + "+1".repeat(29) + ";claim 1" + "*1".repeat(29)), 2);
        due("5 sixty with facts", rule(x, "claim 1+1+1 if 1=1" + " or 1=1".repeat(18)), 3);
        due("5 ten deep", rule(x, "claim 1 if " + "[".repeat(10) + "1=1" + "]".repeat(10)), 4);
        due("5 ten deep", rule(x, "claim 1 if " + "not[".repeat(5) + "1=1" + "]".repeat(5) + " and [not 1=2]"), 5);
    }

    private static void ruleFault(String text, int place, int kind) {
        WashingLines x = new WashingLines();
        due("5 '" + text + "'", rule(x, text), fault(place, kind));
    }

    private static void ruleFaults() {
        ruleFault("", 0, 0);
        ruleFault("court 1 1", 0, 0);
        ruleFault("claim1;", 7, 0);
        ruleFault("claimwet", 0, 0);
        ruleFault("claim wets", 6, 0);
        ruleFault("claim wetz", 6, 0);
        ruleFault("claim we", 6, 0);
        ruleFault("claim linen", 6, 0);
        ruleFault("claim 123456", 6, 1);
        ruleFault("claim 1 2", 8, 0);
        ruleFault("claim 1 123456", 8, 0);
        ruleFault("claim 1+", 8, 0);
        ruleFault("claim -1", 6, 0);
        ruleFault("claim 1++1", 8, 0);
        ruleFault("claim [1]", 6, 0);
        ruleFault("claim 1=1", 7, 0);
        ruleFault("claim 1 if", 10, 0);
        ruleFault("claim 1 if  ", 12, 0);
        ruleFault("claim 1 if 1", 12, 0);
        ruleFault("claim 1 if 1=", 13, 0);
        ruleFault("claim 1 if 1==1", 13, 0);
        ruleFault("claim 1 if 1< =1", 14, 0);
        ruleFault("claim 1 if 1=<1", 13, 0);
        ruleFault("claim 1 if 1<>1", 13, 0);
        ruleFault("claim 1 if 1<1<1", 14, 0);
        ruleFault("claim 1 if [1<1", 15, 0);
        ruleFault("claim 1 if [1<1;claim 1", 15, 0);
        ruleFault("claim 1 if 1<1]", 14, 0);
        ruleFault("claim 1 if [1]", 13, 0);
        ruleFault("claim 1 if []", 12, 0);
        ruleFault("claim 1 if [1+1]<1", 15, 0);
        ruleFault("claim 1 if not", 14, 0);
        ruleFault("claim 1 if not and", 15, 0);
        ruleFault("claim 1 if 1=1 and", 18, 0);
        ruleFault("claim 1 if 1=1 not 1=1", 15, 0);
        ruleFault("claim 1 if 1=1 if 1=1", 15, 0);
        ruleFault("claim 1 if 1=1 andnot 1=1", 15, 0);
        ruleFault("claim 1;", 8, 0);
        ruleFault("claim 1;wet", 8, 0);
        ruleFault("claim 1,", 7, 0);
        ruleFault("claim 1 if " + "[".repeat(11), 21, 2);
        ruleFault("claim 1 if " + "not ".repeat(11) + "1=1", 51, 2);
        ruleFault("claim 1 if " + "not[".repeat(5) + "not 1=1", 31, 2);
        ruleFault("claim 1 if " + "not[".repeat(5) + "[1=1", 31, 2);
        ruleFault("claim 1 if " + "not ".repeat(10) + "[1=1", 51, 2);
        ruleFault("claim 1 if " + "[".repeat(10) + ";", 21, 0);
        ruleFault("claim 1" + "+1".repeat(60), 126, 3);
        ruleFault("claim 1" + "+1".repeat(59) + "+123456", 126, 1);
        ruleFault("claim 1" + "+1".repeat(59) + "+if", 126, 0);
        ruleFault("claim 1" + "+1".repeat(29) + ";claim 1" + "+1".repeat(30), 132, 3);
        ruleFault("claim 1" + "+1".repeat(58) + " if 1 <= 1", 129, 3);
        ruleFault("claim 1" + "+1".repeat(57) + " if 1 <= 1", 130, 3);
        ruleFault("claim 1;".repeat(12), 96, 0);
        ruleFault("claim 1;".repeat(12) + "claim", 96, 4);
        ruleFault("claim 1;".repeat(12) + "claims", 96, 0);
    }

    /** Whose line 0 is, by a rule, in a court; the rules are to be there fresh. */
    private static int owner(String court, String rule, int hours) {
        WashingLines x = with(court);
        due("5 " + rule, rule(x, rule), 0);
        for (int i = 0; i < hours; i++) {
            x.hour();
        }
        x.force(0);
        return x.line(0, 6);
    }

    private static void word(String word, long worth) {
        String court = "court 2 9;family 20;family 9;line 0 1 4 9;line 1 2 9 99;linen 1 2 5;linen 1 1 7;linen 1 3 0;linen 0 2 3;"
            + "hung 0 1;hung 1 1;hung 2 1;hung 3 1;rain 3 3";
        for (int more = -1; more <= 1; more++) {
            WashingLines x = with(court);
            rule(x, "claim 1 if family=1 and line=1 and " + word + "+1=" + (worth + more + 1));
            x.hour();
            x.hour();
            x.force(0);
            due("5 " + word, x.line(1, 6), more == 0 ? 1 : -1);
        }
    }

    /** Two hours on: linen 0 is 1 wet, linen 1 3, linen 2 0, linen 3 0; family 1 has held line 1 by wet alone. */
    private static void ruleWords() {
        word("family", 1);
        word("line", 1);
        word("length", 9);
        word("cells", 6);
        word("wet", 3);
        word("wettest", 3);
        word("all", 4);
        word("others", 2);
        word("held", 1);
        word("pegs", 3);
        word("air", 18);
        word("hour", 2);
        word("rain", 0);
        String court = "court 1 1;family 9;family 9;line 0 1 5 9;rain 1 1";
        due("5 rain in it", owner(court, "claim 1 if family=1 and rain=1", 1), 1);
        due("5 rain no more", owner(court, "claim 1 if family=1 and rain=1", 2), -1);
        due("5 wettest of none", owner(court, "claim 1 if family=0 and wettest=0 and all=0", 0), 0);
        due("5 held by nobody", owner(court, "claim held+family", 0), 1);
        due("5 held by nobody", owner(court, "claim 1 if family=1 and held=0", 0), 1);
    }

    private static void sum(String sum, String value) {
        String court = "court 1 1;family 9;line 0 1 5 9";
        due("5 " + sum, owner(court, "claim 1 if " + sum + "=" + value, 0), 0);
        due("5 " + sum, owner(court, "claim 1 if not " + sum + "=" + value, 0), -1);
    }

    private static void ruleArithmetic() {
        sum("7-2-1", "4");
        sum("2+3*4", "14");
        sum("2*3+4", "10");
        sum("100/7/2", "7");
        sum("100%7*3", "6");
        sum("2*7%3", "2");
        sum("7/0", "0");
        sum("7%0", "0");
        sum("1-8/1-0*1", "0-7");
        sum("0/5*0-7+5", "0-2");
        sum("00042", "42");
        // 65536 four times is 2 to the 64th, which is 0 again; its half is the least number of 64 bits.
        String least = "65536*65536*65536*32768";
        sum("65536*65536*65536*65536", "0");
        sum(least + "/65536/65536/65536", "0-32768");
        sum(least + "%7", "0-1");
        sum(least + "-1+1", least);
        String court = "court 1 1;family 9;line 0 1 5 9";
        due("5 least is below 0", owner(court, "claim " + least, 0), -1);
        due("5 round 64 bits", owner(court, "claim " + least + "-1", 0), 0);
        due("5 towards 0", owner(court, "claim 1 if 65536*65536*65536*65535/65536/65536/65536/2=0", 0), 0);
    }

    private static void test(String test, boolean holds) {
        due("5 " + test, owner("court 1 1;family 9;line 0 1 5 9", "claim 1 if " + test, 0), holds ? 0 : -1);
    }

    private static void ruleTests() {
        test("1<2", true);
        test("2<2", false);
        test("2<=2", true);
        test("3<=2", false);
        test("2=2", true);
        test("2=3", false);
        test("2>=2", true);
        test("1>=2", false);
        test("3>2", true);
        test("2>2", false);
        test("0-1<0", true);
        test("1=1 or 1=1 and 1=2", true);
        test("[1=1 or 1=1] and 1=2", false);
        test("1=2 and 1=1 or 1=1", true);
        test("1=2 or 1=1 or 1=2", true);
        test("1=1 and 1=1 and 1=2", false);
        test("1=2 or 1=1 and 1=1 or 1=2", true);
        test("not 1=2 and 1=1", true);
        test("not 1=1 or 1=1", true);
        test("not [1=1 or 1=1]", false);
        test("not not 1=1", true);
        test("not[not[1=1]]", true);
        test("1=1and1=1or[1=2]", true);
        String court = "court 1 1;family 9;family 9;line 0 1 5 9";
        due("5 the first clause that holds", owner(court, "claim 2 if family=1;claim 3 if family=1;claim 1", 0), 1);
        due("5 not the best clause", owner(court, "claim 1 if family=1;claim 9 if family=1;claim 2", 0), 0);
        due("5 none holds: 0", owner(court, "claim 1 if 1=2;claim 2 if family=1", 0), 1);
        due("5 behind one without a test", owner(court, "claim family;claim 9 if family=0", 0), 1);
        due("5 alike: nobody's", owner(court, "claim 5", 0), -1);
        due("5 below 0: nobody's", owner(court, "claim 0-1-family", 0), -1);
        due("5 0: nobody's", owner(court, "claim 0-family", 0), -1);
        due("5 two alike, one above", owner("court 1 1;family 9;family 9;family 9;line 0 1 1 1", "claim 5+family/2", 0), 2);
        due("5 two alike, one below", owner("court 1 1;family 9;family 9;family 9;line 0 1 1 1", "claim 5-family/2", 0), -1);
    }

    private static void rulesInForce() {
        WashingLines x = with(TWO);
        due("6 none there", x.force(0), -2);
        due("6 none", x.force(-1), -1);
        rule(x, "claim family");
        rule(x, "claim 1-family");
        due("6", x.force(1), -1);
        due("6 whose", x.line(0, 6), 0);
        due("6", x.force(0), 1);
        due("6 whose", x.line(0, 6), 1);
        due("6 none such", x.force(2), -2);
        due("6 below", x.force(-2), -2);
        due("6 nothing happened", x.count(6), 0);
        due("6 no act", x.count(12), 0);
        due("6 none", x.force(-1), 0);
        due("6 by wet", x.line(1, 6), -1);
    }

    private static void tellings() {
        WashingLines x = with(TWO);
        due("7", x.family(0, 0), 8);
        due("7", x.family(1, 0), 2);
        due("7", x.family(0, 1), 0);
        due("7", x.family(0, 2), 1);
        due("7", x.family(1, 2), 0);
        due("7", x.family(0, 3), 5);
        due("7", x.family(1, 3), 10);
        due("7 none", x.family(2, 0), -1);
        due("7 none", x.family(-1, 0), -1);
        due("7 none", x.family(0, 4), -1);
        due("7 none", x.family(0, -1), -1);
        int[] line = {0, 1, 6, 9, 1, 3, 0, -1, 0};
        for (int what = 0; what < line.length; what++) {
            due("8 " + what, x.line(0, what), line[what]);
        }
        due("8 none", x.line(2, 0), -2);
        due("8 none", x.line(-1, 0), -2);
        due("8 none", x.line(0, 9), -2);
        due("8 none", x.line(0, -1), -2);
        int[] linen = {1, 2, 5, 0};
        for (int what = 0; what < linen.length; what++) {
            due("9 " + what, x.linen(1, what), linen[what]);
        }
        due("9 does not hang", x.linen(2, 3), -1);
        due("9 none", x.linen(4, 0), -2);
        due("9 none", x.linen(-1, 0), -2);
        due("9 none", x.linen(0, 4), -2);
        due("9 none", x.linen(0, -1), -2);
    }

    private static void hours() {
        WashingLines x = new WashingLines();
        due("10 no court", x.hour(), -1);
        x = with(TWO);
        int[] holder = {0, 0, 1, 0, 0, 0, -1};
        int[] wet0 = {2, 0, 5, 3, 1, 0, 0};
        int[] wet1 = {3, 1, 5, 3, 1, 0, 0};
        int air = 0;
        for (int i = 0; i < holder.length; i++) {
            due("10 got", x.hour(), holder[i] < 0 ? 0 : 6);
            due("10 held", x.line(0, 7), holder[i]);
            due("10 wet", x.linen(0, 2), wet0[i]);
            due("10 wet", x.linen(1, 2), wet1[i]);
            air += holder[i] == 0 ? 6 : 0;
            due("10 air", x.family(0, 1), air);
            due("10 hour", x.count(7), i + 1);
        }
        due("10 what does not hang stays wet", x.linen(3, 2), 3);
        x = with("court 1 3;family 9;line 0 1 5 9;linen 0 1 7;hung 0 0;rain 0 0");
        x.hour();
        due("10 rain leaves what is wetter", x.linen(0, 2), 7);
        // By air that was had at the begin: both lines go to the one that had more, none in the midst of an hour.
        x = with("court 1 3;family 9;family 9;line 0 1 5 9;line 0 1 3 9");
        rule(x, "claim 1 if line=0 and family=0;claim 1 if line=1 and family=1 and air=hour*3;claim 1 if line=1 and air>0");
        x.force(0);
        due("10 as all is at its begin", x.hour(), 8);
        due("10 as all is at its begin", x.line(1, 7), 1);
        due("10 alike", x.hour(), 5);
        due("10 nobody", x.line(1, 7), -1);
        due("10 no lines", with("court 1 1").hour(), 0);
    }

    private static void hands() {
        WashingLines x = with(TWO);
        due("11 too long", x.hang(3, 0), -1);
        due("11 hangs already", x.hang(0, 1), -1);
        due("11 no linen", x.hang(4, 0), -1);
        due("11 no linen", x.hang(-1, 0), -1);
        due("11 no line", x.hang(2, 2), -1);
        due("11 no line", x.hang(2, -1), -1);
        due("11 nothing happened", x.count(12), 0);
        due("11", x.hang(3, 1), 1);
        due("11 pegs", x.family(1, 0), 0);
        due("11 to the end", x.hang(2, 1), 0);
        due("11 on it", x.line(1, 5), 12);
        due("12", x.take(1), 0);
        due("12 pegs", x.family(1, 0), 2);
        due("12 no more", x.take(1), -1);
        due("12 none", x.take(4), -1);
        due("12 none", x.take(-1), -1);
        x = with("court 1 9;family 3;line 0 1 9 9;line 0 1 9 9;linen 0 1 5;linen 0 1 6;linen 0 1 0");
        due("11", x.hang(0, 0), 8);
        due("11 one peg", x.hang(1, 0), -1);
        due("13 as told", x.wash(1), -1);
        due("13 hangs", x.wash(0), -1);
        x.hour();
        due("13 hangs", x.wash(0), -1);
        x.take(0);
        due("13 wet", x.linen(0, 2), 4);
        due("13", x.wash(0), 5);
        due("13 once", x.wash(0), -1);
        due("13 none", x.wash(3), -1);
        due("13 none", x.wash(-1), -1);
        x = with("court 1 9;family 3;line 0 1 9 9;linen 0 1 5;hung 0 0;rain 0 0");
        x.hour();
        x.take(0);
        due("13 less wet than by rain", x.wash(0), 5);
    }

    private static void cutting() {
        WashingLines x = with(TWO);
        x.hour();
        due("14", x.cut(0), 2);
        due("14 held", x.line(0, 7), -1);
        due("14 cut", x.line(0, 8), 1);
        due("14 nobody's", x.line(0, 6), -1);
        due("14 pegs", x.family(0, 0), 10);
        due("14 pegs", x.family(1, 0), 4);
        due("14 bits", x.count(9), 1);
        due("14 again", x.cut(0), -1);
        due("14 none", x.cut(2), -1);
        due("14 none", x.cut(-1), -1);
        due("11 cut", x.hang(0, 0), -1);
        rule(x, "claim 1+family");
        x.force(0);
        due("14 nobody's by any rule", x.line(0, 6), -1);
        due("10 nobody holds it", x.hour(), 3);
        due("15 not cut", x.mend(1) ? 1 : 0, 0);
        due("15 none", x.mend(2) ? 1 : 0, 0);
        due("15 none", x.mend(-1) ? 1 : 0, 0);
        due("15", x.mend(0) ? 1 : 0, 1);
        due("15 again", x.mend(0) ? 1 : 0, 0);
        due("15 whose", x.line(0, 6), 1);
        due("15 nothing on it", x.line(0, 5), 0);
        due("14 empty", x.cut(1), 0);
    }

    private static void undoing() {
        WashingLines x = with(TWO);
        x.hour();
        x.hang(3, 1);
        x.take(3);
        x.take(0);
        x.wash(0);
        x.cut(0);
        x.mend(0);
        due("16 acts", x.count(12), 7);
        due("16 mend", x.undo(), 6);
        due("16 mend", x.line(0, 8), 1);
        due("16 cut", x.undo(), 5);
        due("16 cut", x.line(0, 5), 2);
        due("16 cut", x.line(0, 7), 0);
        due("16 wash", x.undo(), 4);
        due("16 wash", x.linen(0, 2), 2);
        due("16 take", x.undo(), 3);
        due("16 take", x.linen(0, 3), 0);
        due("16 take", x.undo(), 2);
        due("16 take", x.family(1, 0), 0);
        due("16 hang", x.undo(), 1);
        due("16 hang", x.linen(3, 3), -1);
        due("16 hour", x.undo(), 0);
        due("16 hour", x.count(7), 0);
        due("16 hour", x.family(0, 1), 0);
        due("16 hour", x.linen(0, 2), 4);
        due("16 none", x.undo(), -2);
        for (int i = 0; i < 25; i++) {
            x.hour();
        }
        due("16 twenty", x.count(12), 20);
        for (int i = 19; i >= 0; i--) {
            due("16 twenty", x.undo(), i);
        }
        due("16 twenty", x.undo(), -2);
        due("16 twenty", x.count(7), 5);
        rule(x, "claim 1");
        x.hour();
        x.force(0);
        x.seed(9);
        x.log(0, 0, 0);
        due("16 no act in between", x.undo(), 0);
        due("16 force stays", x.count(6), 0);
        due("16 x stays", x.count(13), 9);
        due("16 logs stay", x.count(11), 1);
    }

    private static void lookingAhead() {
        WashingLines x = with(TWO);
        int[] holder = {-1, 0, 0, 1, 0, 0, 0, -1};
        int[] wet = {4, 2, 0, 5, 3, 1, 0, 0};
        int[] air = {0, 6, 12, 12, 18, 24, 30, 30};
        for (int n = 0; n < holder.length; n++) {
            due("17 held", x.ahead(0, n, 0), holder[n]);
            due("17 wet", x.ahead(0, n, 1), wet[n]);
            due("17 air", x.ahead(0, n, 2), air[n]);
        }
        due("17 far", x.ahead(0, 100, 2), 30);
        due("17 too far", x.ahead(0, 101, 2), -2);
        due("17 back", x.ahead(0, -1, 2), -2);
        due("17 none", x.ahead(2, 1, 0), -2);
        due("17 none", x.ahead(4, 1, 1), -2);
        due("17 none", x.ahead(2, 1, 2), -2);
        due("17 none", x.ahead(-1, 1, 2), -2);
        due("17 none", x.ahead(0, 1, 3), -2);
        due("17 none", x.ahead(0, 1, -1), -2);
        due("17 nothing changes", x.count(7), 0);
        due("18", x.dries(0), 2);
        due("18 past the rain", x.dries(1), 6);
        due("18 does not hang", x.dries(2), -2);
        due("18 none", x.dries(4), -1);
        due("18 none", x.dries(-1), -1);
        x.hour();
        due("18 the number of the hour", x.dries(0), 2);
        x.hour();
        due("18 this one", x.dries(0), 2);
        x.hour();
        due("18 behind the rain", x.dries(0), 6);
        x = with("court 1 20;family 9;line 0 1 9 9;linen 0 1 20;linen 0 1 0;hung 0 0;hung 1 0;rain 0 99");
        due("18 far off", x.dries(0), 120);
        due("18 dry now", x.dries(1), 0);
    }

    private static void hangingMost() {
        WashingLines x = with(TWO);
        due("19", x.most(1, 1, 0), 3);
        due("19", x.most(1, 1, 1), 1);
        due("19 not so many", x.most(1, 1, 2), -2);
        due("19 none ahead of line 0", x.most(0, 1, 1), -1);
        due("19 none", x.most(2, 1, 0), -3);
        due("19 none", x.most(0, 0, 0), -3);
        due("19 none", x.most(0, 13, 0), -3);
        due("19 none", x.most(0, 1, 5), -3);
        due("19 none", x.most(0, 1, -1), -3);
        x = with("court 1 1;family 20;line 0 1 2 9;line 0 1 9 9;line 0 1 9 9;linen 0 1 1;linen 0 3 2;linen 0 2 9;linen 0 1 2;"
            + "linen 0 4 20");
        due("19 twelve hours", x.most(0, 12, 0), 9 * 9 + 9 * 2 + 2 * 2);
        due("19 row", x.most(0, 12, 1), -1);
        due("19 row", x.most(0, 12, 2), 1);
        due("19 row", x.most(0, 12, 3), 2);
        due("19 row", x.most(0, 12, 4), 0);
        due("19 the first four alone", x.most(0, 1, 0), 20);
        x.hour();
        x = with("court 1 1;family 3;line 0 1 2 9;line 0 1 9 9;linen 0 1 5;linen 0 1 5");
        due("19 pegs for one", x.most(0, 1, 0), 9);
        due("19 first row", x.most(0, 1, 1), -1);
        due("19 first row", x.most(0, 1, 2), 1);
        x.hang(0, 1);
        x.hour();
        due("19 air so far counts", x.most(0, 1, 0), 18);
    }

    private static void games() {
        WashingLines x = with(TWO);
        due("20", x.game(0, 1, 1, 0), 6);
        due("20 nothing", x.game(0, 1, 1, 1), -1);
        due("20", x.game(1, 0, 1, 0), -3);
        due("20 act", x.game(1, 0, 1, 1), 13);
        due("20 unlike", x.game(0, 0, 1, 0), -100000);
        due("20 none", x.game(0, 2, 1, 0), -100000);
        due("20 none", x.game(-1, 0, 1, 0), -100000);
        due("20 none", x.game(0, 1, 0, 0), -100000);
        due("20 none", x.game(0, 1, 4, 0), -100000);
        due("20 none", x.game(0, 1, 1, 2), -100000);
        due("20 none", x.game(0, 1, 1, -1), -100000);
        // A line of 4 and one of 5. The first one takes the 5; the other one hangs there too, so that it is nobody's,
        // and this is worse for the first one than the 4 would be for the other one.
        x = with("court 1 1;family 4;family 4;line 0 1 4 9;line 0 1 5 9;linen 0 1 9;linen 1 1 9;linen 0 1 9");
        due("20 one turn", x.game(0, 1, 1, 0), 5);
        due("20 two turns", x.game(0, 1, 2, 0), 5);
        due("20 its act", x.game(0, 1, 2, 1), 10);
        due("20 the other one first", x.game(1, 0, 2, 0), 5);
        due("20 its act", x.game(1, 0, 2, 1), 11);
        due("20 three turns", x.game(0, 1, 3, 0), 10);
        x = with("court 1 1;family 4;family 4;line 0 1 4 9;line 0 1 5 9;linen 0 1 9;linen 1 1 9;hung 1 1");
        x.hour();
        due("20 air so far counts", x.game(0, 1, 1, 0), -5);
        due("20 its act", x.game(0, 1, 1, 1), 10);
        due("20 air so far counts", x.game(1, 0, 1, 0), 10);
        due("20 of several nothing", x.game(1, 0, 1, 1), -1);
        x = with("court 1 1;family 4;family 4;line 0 1 5 9;line 0 1 5 9;linen 0 1 9;linen 1 1 9;linen 1 2 9");
        due("20 of several the least", x.game(1, 0, 1, 1), 1);
        x.hang(0, 0);
        due("20 of several the least", x.game(1, 0, 1, 1), 2);
        due("20 has none to hang", x.game(0, 1, 1, 1), -1);
    }

    private static void sets() {
        WashingLines x = with(TWO);
        due("21", x.free(0, 0), 2);
        due("21", x.free(0, 1), 3);
        due("21 nobody's already", x.free(1, 0), 0);
        due("21 nobody's already", x.free(1, 1), 0);
        due("21 none", x.free(2, 0), -1);
        due("21 none", x.free(0, 2), -1);
        due("21 none", x.free(-1, 0), -1);
        due("22", x.few(1, 1, 0), 1);
        due("22", x.few(1, 1, 1), 8);
        due("22 theirs already", x.few(0, 0, 0), 0);
        due("22 by none", x.few(0, 1, 0), -2);
        due("22 by none", x.few(1, 0, 1), -2);
        due("22 none", x.few(2, 0, 0), -1);
        due("22 none", x.few(0, 2, 0), -1);
        due("22 none", x.few(0, 0, 2), -1);
        x = with("court 1 1;family 20;family 20;line 0 1 9 9;linen 0 1 1;linen 0 2 1;linen 0 1 1;linen 1 2 1;linen 1 1 1;"
            + "linen 1 1 1;linen 1 3 1;hung 0 0;hung 1 0;hung 2 0;hung 3 0");
        due("21 fewest, alike then", x.free(0, 1), 2);
        due("22 fewest", x.few(1, 0, 1), 64);
        x.take(0);
        due("21 least set", x.free(0, 1), 4);
        x.take(2);
        due("22 least set", x.few(1, 0, 1), 16);
        due("22 least set", x.few(0, 0, 1), 1);
        rule(x, "claim 1-family");
        x.force(0);
        due("21 by none", x.free(0, 0), -2);
        due("21 by none", x.free(0, 1), -2);
        x.cut(0);
        due("21 cut", x.free(0, 0), 0);
        due("22 cut", x.few(0, 0, 0), -2);
    }

    private static void ways() {
        due("23 no court", new WashingLines().way(0, 0, 0), -3);
        WashingLines x = with("court 1 1;line 0 1 3 9;line 1 2 3 9;line 0 2 6 9;line 0 3 1 9;line 3 1 2 9;line 2 0 6 9");
        due("23", x.way(0, 2, 0), 6);
        due("23 fewest lines", x.way(0, 2, 1), 2);
        due("23 the other way round", x.way(2, 0, 1), 2);
        due("23 fewest lines", x.way(0, 1, 1), 0);
        due("23", x.way(3, 2, 0), 5);
        due("23", x.way(3, 2, 1), 4);
        due("23 there already", x.way(5, 5, 0), 0);
        due("23 there already", x.way(5, 5, 1), -1);
        due("23 no way", x.way(0, 5, 0), -2);
        due("23 no way", x.way(0, 5, 1), -2);
        due("23 none", x.way(8, 0, 0), -3);
        due("23 none", x.way(0, 8, 0), -3);
        due("23 none", x.way(-1, 0, 0), -3);
        due("23 none", x.way(0, -1, 0), -3);
        due("23 none", x.way(0, 0, 2), -3);
        x.cut(2);
        due("23 first row", x.way(0, 2, 1), 5);
        x.cut(5);
        due("23 fewest again", x.way(0, 2, 1), 0);
        x.cut(0);
        due("23 round about", x.way(0, 2, 0), 6);
        due("23 round about", x.way(0, 2, 1), 3);
        x.cut(1);
        due("23 cut off", x.way(0, 2, 0), -2);
    }

    private static void loads() {
        WashingLines x = with("court 1 9;family 20;line 0 1 9 30;line 0 1 9 5;line 0 1 9 99;line 0 1 4 4;linen 0 2 4;linen 0 1 3;"
            + "linen 0 1 6;linen 0 1 0;linen 0 4 4;hung 0 0;hung 1 0;hung 2 1;hung 3 2;hung 4 3");
        due("24", x.bears(0), 7);
        due("24 not by 0", x.bears(1), -1);
        due("24 most", x.bears(2), 99);
        due("24 just", x.bears(3), 0);
        due("24 none", x.bears(4), -2);
        due("24 none", x.bears(-1), -2);
        due("25", x.storm(0), 2);
        due("25", x.storm(1), 10);
        due("25", x.storm(7), 10);
        due("25", x.storm(8), 11);
        due("25", x.storm(99), 11);
        due("25 none", x.storm(100), -1);
        due("25 none", x.storm(-1), -1);
        due("25 no court", new WashingLines().storm(0), -1);
        x.cut(1);
        due("25 cut", x.storm(8), 9);
        due("24 cut", x.bears(1), 99);
    }

    private static void worths() {
        WashingLines x = with(TWO);
        due("26", x.worth(0, 2), 12);
        due("26", x.worth(1, 3), 6);
        due("26 long", x.worth(0, 60), 30);
        due("26 hangs not", x.worth(2, 1), -100000);
        due("26 none", x.worth(4, 1), -100000);
        due("26 none", x.worth(-1, 1), -100000);
        due("26 none", x.worth(0, 0), -100000);
        due("26 none", x.worth(0, 61), -100000);
        rule(x, "claim pegs");
        x.force(0);
        x.take(1);
        due("26 below 0", x.worth(0, 1), 0);
        rule(x, "claim 9 if pegs>9;claim 5 if family=1");
        x.force(1);
        due("26 below 0", x.worth(0, 2), -18);
    }

    private static void logs() {
        WashingLines x = with(TWO);
        due("28 no logs", x.ruled(0), 1);
        due("28 none first", x.ruled(1), -1);
        due("27", x.log(0, 0, 0), 1);
        due("27", x.log(2, 0, 1), 2);
        due("27 nobody", x.log(60, 1, -1), 3);
        due("28", x.ruled(0), 1);
        due("27 none", x.log(61, 0, 0), -2);
        due("27 none", x.log(-2, 0, 0), -2);
        due("27 none", x.log(0, 2, 0), -2);
        due("27 none", x.log(0, -1, 0), -2);
        due("27 none", x.log(0, 0, 2), -2);
        due("27 none", x.log(0, 0, -2), -2);
        rule(x, "claim family");
        rule(x, "claim wet");
        due("28", x.ruled(0), 2);
        x.log(3, 0, 1);
        due("28 by none", x.ruled(0), 0);
        due("28 by none", x.ruled(1), -2);
        due("27 away", x.log(-1, 99, 99), 0);
        x.log(0, 0, 1);
        due("28", x.ruled(0), 1);
        due("28 the first", x.ruled(1), 0);
        due("28 others", x.ruled(2), -3);
        due("28 others", x.ruled(-1), -3);
        due("28 no court", new WashingLines().ruled(0), -3);
        for (int i = 2; i <= 10; i++) {
            due("27 ten", x.log(i, 0, 1), i);
        }
        due("27 ten", x.log(0, 0, 1), -2);
        due("27 ten", x.count(11), 10);
        x.cut(0);
        x.hour();
        x.force(1);
        due("28 from the begin on, as the text told it", x.ruled(1), 0);
        due("27 away without a court", new WashingLines().log(-1, 0, 0), 0);
        x = with("court 1 1;family 3;line 0 1 3 9");
        rule(x, "claim hour<61");
        x.log(60, 0, 0);
        due("28 none, behind the last hour", x.ruled(0), 0);
        rule(x, "claim 1 if hour=60");
        due("28 behind the last hour", x.ruled(1), 0);
        due("28 the hours stay", x.count(7), 0);
    }

    private static void looks() {
        WashingLines x = with(TWO);
        due("29", x.look(0, 0), 0);
        due("29", x.look(0, 1), 1);
        rule(x, "claim family");
        rule(x, "claim 1-family");
        rule(x, "claim 1-family if line=1;claim family");
        // Behind hour 0: line 0 is held by 0, 1, 0, 1; line 1 by nobody, 1, 0, 0.
        due("29 best", x.look(0, 0), 0);
        due("29 how many", x.look(0, 1), 2);
        // Behind hour 2: line 0 by 1, 1, 0, 1; line 1 as ever.
        due("29 best", x.look(2, 0), 1);
        due("29 how many", x.look(2, 1), 2);
        x.log(0, 1, 1);
        due("29 those that are so alone", x.look(2, 1), 1);
        due("29 the least line", x.look(60, 0), 0);
        x.log(0, 1, 0);
        due("29 none is so", x.look(0, 0), -2);
        due("29 none is so", x.look(0, 1), -2);
        x.log(-1, 0, 0);
        rule(x, "claim 1-family");
        rule(x, "claim 1-family");
        rule(x, "claim 1-family");
        due("29 all six and none", x.ruled(0), 7);
        due("29 all six and none", x.look(2, 1), 4);
        due("29 none", x.look(61, 0), -1);
        due("29 none", x.look(-1, 0), -1);
        due("29 none", x.look(0, 2), -1);
        due("29 no court", new WashingLines().look(0, 0), -1);
        due("29 no lines", with("court 1 1").look(0, 0), -2);
    }

    private static void laws() {
        WashingLines x = with(TWO);
        due("30", x.laws(0, 1, 0), -1);
        due("30", x.laws(0, 1, 1), 6);
        rule(x, "claim 1-family if line=0");
        rule(x, "claim 1-family");
        rule(x, "claim 1-family");
        due("30 none first", x.laws(1, 60, 0), -1);
        due("30", x.laws(1, 60, 1), 6);
        due("30 the first of two", x.laws(0, 1, 0), 1);
        due("30", x.laws(0, 60, 1), 540);
        x.hour();
        due("30 more than it has now", x.laws(0, 60, 1), 540);
        due("30 none", x.laws(2, 1, 0), -2);
        due("30 none", x.laws(0, 0, 0), -2);
        due("30 none", x.laws(0, 61, 0), -2);
        due("30 none", x.laws(0, 1, 2), -2);
        due("30 none", x.laws(0, 1, -1), -2);
        due("30 in force stays", x.count(6), -1);
    }

    private static void years() {
        WashingLines x = with("court 1 2;family 9;line 0 1 5 9;linen 0 1 1;linen 0 1 0;hung 0 0;rain 3 3");
        due("31", x.seed(2147483647), 0);
        due("31 below 0", x.seed(-1), -1);
        due("31", x.seed(0), 2147483647);
        due("32 never", x.years(1, 3, 0, 0), 5);
        due("32 dry", x.years(1, 3, 0, 1), 1);
        due("32 ten times", x.years(10, 3, 0, 0), 50);
        due("32 as told too", x.years(1, 6, 0, 0), 15);
        due("32 sixty hours", x.years(1, 60, 0, 0), 15);
        due("32 always", x.years(1, 6, 100, 0), 30);
        due("32 always", x.years(2, 6, 100, 1), 0);
        // From 0 on the draws are 0, 21468, 9988, 22117: mod 100 this is 0, 68, 88, 17.
        due("32 below 1", x.years(1, 2, 1, 0), 10);
        due("32 below 1", x.years(1, 2, 1, 1), 0);
        due("32 x goes on", x.years(2, 2, 1, 1), 1);
        due("32 below 17", x.years(2, 2, 17, 1), 1);
        due("32 below 18", x.years(2, 2, 18, 1), 0);
        due("32 x as it was", x.count(13), 0);
        due("32 none", x.years(0, 1, 0, 0), -1);
        due("32 none", x.years(11, 1, 0, 0), -1);
        due("32 none", x.years(1, 0, 0, 0), -1);
        due("32 none", x.years(1, 61, 0, 0), -1);
        due("32 none", x.years(1, 1, -1, 0), -1);
        due("32 none", x.years(1, 1, 101, 0), -1);
        due("32 none", x.years(1, 1, 0, 2), -1);
        due("32 no court", new WashingLines().years(1, 1, 0, 0), -1);
        rule(x, "claim rain");
        x.force(0);
        due("32 drawn rain is rain", x.years(1, 1, 1, 0), 5);
        due("32 drawn rain is rain", x.years(1, 1, 0, 0), 0);
    }

    private static void counts() {
        WashingLines x = with(TWO);
        rule(x, "claim 1");
        x.seed(77);
        x.log(0, 0, 0);
        x.cut(1);
        x.hour();
        x.hour();
        x.force(0);
        x.feed(0, 0, 0, 0, 0);
        int[] all = {2, 5, 2, 2, 4, 1, 0, 2, 3, 2, 1, 1, 3, 77, 20};
        for (int what = 0; what < all.length; what++) {
            due("33 " + what, x.count(what), all[what]);
        }
        due("33 others", x.count(15), -1);
        due("33 others", x.count(-1), -1);
    }

    private static void images() {
        WashingLines x = new WashingLines();
        due("34 nothing told yet", x.image(0), 0);
        due("34 another", x.image(4), -1);
        due("34 another", x.image(-1), -1);
        due("35 never made", x.back(1), -1);
        due("35 another", x.back(4), -1);
        due("35 another", x.back(-1), -1);
        court(x, TWO);
        rule(x, "claim 1");
        x.hour();
        x.hang(2, 1);
        x.force(0);
        x.seed(5);
        x.log(0, 0, 1);
        due("34", x.image(3), 1);
        rule(x, "claim 2");
        x.force(1);
        x.undo();
        x.undo();
        x.cut(0);
        x.seed(6);
        x.log(-1, 0, 0);
        x.feed(0, 0, 0, 0, 0);
        due("35", x.back(3), 1);
        due("35 in force", x.count(6), 0);
        due("35 x", x.count(13), 5);
        due("35 logs", x.count(11), 1);
        due("35 the rules stay", x.count(5), 2);
        due("35 the tape stays", x.count(14), 20);
        due("35 what can be undone", x.count(12), 2);
        due("35 linen", x.linen(2, 3), 1);
        due("35 undo", x.undo(), 1);
        due("35 undo", x.linen(2, 3), -1);
        due("35 undo", x.undo(), 0);
        due("35 undo", x.count(7), 0);
        due("35 again", x.back(3), 1);
        due("35 again", x.count(12), 2);
        due("35 nothing told", x.back(0), 0);
        due("35 nothing told", x.count(3), 0);
        due("35 nothing told", x.hour(), -1);
        due("35 the other images stay", x.back(3), 1);
        due("35 the other images stay", x.count(3), 2);
    }
}
