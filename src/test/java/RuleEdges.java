import java.util.Arrays;
import java.util.function.Supplier;

/** The boundaries of promises 5 and 6: rules, what their words and signs are worth, whose a line is by them. */
final class RuleEdges {
    private static final String ONE = "court 1 1;family 9;line 0 1 5 9";
    private static final String PAIR = "court 1 1;family 9;family 9;line 0 1 5 9";

    private RuleEdges() {
    }

    /** Whose line 0 is, by a rule in force, in a new object. */
    private static int owner(String court, String rule) {
        return Edge.under(court, rule).line(0, 6);
    }

    private static void holds(Edge e, String test, boolean holds) {
        e.due("if " + test, owner(ONE, "claim 1 if " + test), holds ? 0 : -1);
        e.due("if not [" + test + "]", owner(ONE, "claim 1 if not [" + test + "]"), holds ? -1 : 0);
    }

    /** A word is worth just this for a family and a line: neither one less nor one more. */
    private static void worth(Edge e, Supplier<WashingLines> made, String word, int family, int line, int value) {
        for (int more = -1; more <= 1; more++) {
            WashingLines x = made.get();
            int rule = Edge.rule(x, "claim 1 if family=" + family + " and line=" + line + " and " + word + "+1="
                + (value + more + 1));
            x.force(rule);
            e.due(word + " of " + family + " on " + line + " is " + (value + more), x.line(line, 6), more == 0 ? family : -1);
        }
    }

    // ---- promise 5: what a rule is

    @Sentence(promise = 5, words = "RULES 0 to 5")
    static void sixRules(Edge e) {
        WashingLines x = new WashingLines();
        for (int rule = 0; rule < 6; rule++) {
            e.due("RULES", x.count(5), rule);
            e.due("rule()", Edge.rule(x, "claim " + rule), rule);
        }
        e.due("RULES", x.count(5), 6);
        e.due("a seventh", Edge.rule(x, "claim 7"), -1);
        e.due("RULES", x.count(5), 6);
        e.due("force(5)", x.force(5), -1);
        e.due("force(6)", x.force(6), -2);
    }

    @Sentence(promise = 5, words = "texts likewise, 12 CLAUSES at most")
    static void twelveClauses(Edge e) {
        for (int clauses = 1; clauses <= 12; clauses++) {
            e.ruleStands("claim 1" + ";claim 1".repeat(clauses - 1));
        }
        e.ruleFault("claim 1" + ";claim 1".repeat(11) + ";^claim 1", 4);
        e.ruleFault("claim 1" + ";claim 1".repeat(11) + ";  ^claim", 4);
        e.ruleFault("claim 1" + ";claim 1".repeat(10) + ";claim ^;claim 1", 0);
        String twelfth = "claim 0 if 1=2;".repeat(11);
        e.due("the twelfth CLAUSE counts", owner(ONE, twelfth + "claim 1"), 0);
        e.due("the twelfth CLAUSE counts", owner(ONE, twelfth + "claim 0"), -1);
        e.ruleStands("claim 1" + " ".repeat(393));
        e.ruleFault("claim 1" + " ".repeat(392) + "^.", 0);
        e.ruleFault("claim 1;" + " ".repeat(392) + "^", 0);
        e.ruleFault(" ".repeat(395) + "claim^", 0);
    }

    @Sentence(promise = 5, words = "claim SUM [ if TEST ]")
    static void claims(Edge e) {
        e.ruleStands("claim 1");
        e.ruleStands("claim 1 if 1=1");
        e.ruleFault("^", 0);
        e.ruleFault("  ^", 0);
        e.ruleFault("^;", 0);
        e.ruleFault("^1", 0);
        e.ruleFault("^if 1=1", 0);
        e.ruleFault("claim^", 0);
        e.ruleFault("claim ^if 1=1", 0);
        e.ruleFault("claim 1 if^", 0);
        e.ruleFault("claim 1 if 1=1 ^if 1=1", 0);
        e.ruleFault("claim 1 ^claim 1", 0);
        e.ruleFault("claim 1;^", 0);
        e.ruleFault("claim 1;^;claim 1", 0);
        e.ruleFault("claim 1;^1", 0);
        e.ruleFault("^court 1 1", 0);
        e.ruleFault("claim ^[1]", 0);
        e.ruleFault("claim 1^=1", 0);
    }

    @Sentence(promise = 5, words = "TEST: PART { or PART }. PART: FACT { and FACT }.")
    static void parts(Edge e) {
        holds(e, "1=1 or 1=1 and 1=2", true);
        holds(e, "1=2 and 1=1 or 1=1", true);
        holds(e, "1=2 and 1=2 or 1=1 and 1=2", false);
        holds(e, "[1=1 or 1=1] and 1=2", false);
        holds(e, "1=2 or 1=2 or 1=1", true);
        holds(e, "1=1 and 1=1 and 1=2", false);
        holds(e, "1=2 or 1=1 and 1=1 or 1=2", true);
        e.ruleFault("claim 1 if ^or 1=1", 0);
        e.ruleFault("claim 1 if ^and 1=1", 0);
        e.ruleFault("claim 1 if 1=1 or^", 0);
        e.ruleFault("claim 1 if 1=1 and^", 0);
        e.ruleFault("claim 1 if 1=1 or ^and 1=1", 0);
        e.ruleFault("claim 1 if 1=1 ^1=1", 0);
        e.ruleStands("claim 1 if 1=1" + " or 1=1 and 1=1".repeat(9));
    }

    @Sentence(promise = 5, words = "FACT: not FACT | [ TEST ] (these brackets are signs) | SUM SIGN SUM, SIGN one of < <= = "
        + ">= >.")
    static void facts(Edge e) {
        String[] signs = {"<", "<=", "=", ">=", ">"};
        boolean[][] due = {{true, false, false}, {true, true, false}, {false, true, false}, {false, true, true},
            {false, false, true}};
        for (int sign = 0; sign < 5; sign++) {
            for (int right = 4; right <= 6; right++) {
                holds(e, "5" + signs[sign] + right, due[sign][6 - right]);
                String fact = "5-9" + signs[sign] + right + "-9";
                holds(e, fact, due[sign][6 - right]);
                holds(e, "1=1 and " + fact, due[sign][6 - right]);
                holds(e, fact + " and not 1=2", due[sign][6 - right]);
                holds(e, "1=2 or " + fact, due[sign][6 - right]);
            }
        }
        holds(e, "not 1=2 and 1=2", false);
        holds(e, "not 1=2 and 1=1", true);
        holds(e, "1=1 and not 1=2", true);
        holds(e, "not 1=2 and not 1=2", true);
        holds(e, "not not 1=1", true);
        holds(e, "[[1=1]]", true);
        e.ruleFault("claim 1 if not^", 0);
        e.ruleFault("claim 1 if [^]", 0);
        e.ruleFault("claim 1 if [1=1^", 0);
        e.ruleFault("claim 1 if [1=1^;claim 1", 0);
        e.ruleFault("claim 1 if 1=1^]", 0);
        e.ruleFault("claim 1 if [1^]=1", 0);
        e.ruleFault("claim 1 if 1^", 0);
        e.ruleFault("claim 1 if 1<1^<1", 0);
        e.ruleFault("claim 1 if 1=^=1", 0);
        e.ruleFault("claim 1 if 1=^<1", 0);
        e.ruleFault("claim 1 if 1< ^=1", 0);
        e.ruleFault("claim 1 if 1>^<1", 0);
        e.ruleFault("claim 1 if 1<=^=1", 0);
        e.ruleFault("claim 1 if 1=^[1=1]", 0);
    }

    @Sentence(promise = 5, words = "SUM: TERM { (+ or -) TERM }. TERM: VALUE { (* or / or %) VALUE }.")
    static void sumsAndTerms(Edge e) {
        String[][] due = {{"9-3-2", "4"}, {"9-3+2", "8"}, {"2+3*4", "14"}, {"3*4+2", "14"}, {"100/7/2", "7"}, {"100%7*3", "6"},
            {"2*7%3", "2"}, {"7*3/2", "10"}, {"7/2*3", "9"}, {"10-2*3-1", "3"}, {"9%5%3", "1"}, {"1-2", "0-1"}};
        for (String[] pair : due) {
            holds(e, pair[0] + "=" + pair[1], true);
            holds(e, pair[0] + "=" + pair[1] + "+1", false);
            holds(e, pair[0] + "=" + pair[1] + "-1", false);
        }
        for (String sign : new String[] {"+", "-", "*", "/", "%"}) {
            e.ruleFault("claim ^" + sign + "1", 0);
            e.ruleFault("claim 1" + sign + "^", 0);
            e.ruleFault("claim 1" + sign + "^" + sign + "1", 0);
            e.ruleFault("claim 1" + sign + "^;claim 1", 0);
        }
    }

    @Sentence(promise = 5, words = "VALUE: NUMBER (1 to 5 digits, as far as digits go on) | WORD.")
    static void numbers(Edge e) {
        e.ruleStands("claim 0");
        e.ruleStands("claim 99999");
        e.ruleStands("claim 00000");
        e.ruleFault("claim ^100000", 1);
        e.ruleFault("claim ^000000", 1);
        e.ruleFault("claim ^000001", 1);
        e.ruleFault("claim 1+^4294967297", 1);
        e.ruleFault("claim 1+^18446744073709551617", 1);
        e.ruleFault("claim ^" + "1".repeat(394), 1);
        e.ruleFault("claim 12345 ^6", 0);
        e.ruleStands("claim 1if 1=1");
        e.ruleFault("claim 1^wet", 0);
        for (char sign : "/:.,_Aaz".toCharArray()) {
            e.ruleFault(sign == '/' ? "claim 12/^" : "claim 12^" + sign, 0);
        }
        holds(e, "99999-99998=1", true);
        holds(e, "00012=12", true);
        holds(e, "99999+1>99999", true);
        e.due("the greatest NUMBER", owner(PAIR, "claim 99999 if family=0;claim 99998"), 0);
        e.due("the greatest NUMBER", owner(PAIR, "claim 99998 if family=0;claim 99999"), 1);
    }

    @Sentence(promise = 5, words = "WORDS (small letters, as far as these go on) of a FAMILY and a LINE")
    static void words(Edge e) {
        String[] words = {"family", "line", "length", "cells", "wet", "wettest", "all", "others", "held", "pegs", "air", "hour",
            "rain"};
        for (String word : words) {
            e.ruleStands("claim " + word);
            for (char letter = 'a'; letter <= 'z'; letter++) {
                e.ruleFault("claim ^" + word + letter, 0);
                e.ruleFault("claim ^" + letter + word, 0);
            }
            for (char sign : "`{@[AZ_\u00e9".toCharArray()) {
                e.ruleFault("claim " + word + "^" + sign, 0);
            }
            for (int i = 0; i < word.length(); i++) {
                e.ruleFault("claim ^" + word.substring(0, i) + "z" + word.substring(i + 1), 0);
            }
            e.ruleFault("claim ^" + word.substring(1), 0);
            e.ruleFault("claim ^" + word.substring(0, word.length() - 1), 0);
            e.ruleFault("claim ^" + Character.toUpperCase(word.charAt(0)) + word.substring(1), 0);
            e.ruleFault("claim " + word + "^1", 0);
            e.ruleStands("claim 1+" + word + "*" + word + " if " + word + "=" + word);
            e.ruleFault("^claim" + word, 0);
        }
        for (String word : new String[] {"linen", "court", "hung", "claim", "if", "and", "or", "not", "x", "z"}) {
            e.ruleFault("claim ^" + word, 0);
        }
        for (String word : new String[] {"zlaim", "czaim", "claiz"}) {
            e.ruleFault("^" + word + " 1", 0);
        }
        e.ruleFault("claim 1 ^zf 1=1", 0);
        e.ruleFault("claim 1 ^iz 1=1", 0);
        e.ruleFault("claim 1 if ^zot 1=1", 0);
        e.ruleFault("claim 1 if 1=1 ^znd 1=1", 0);
        e.ruleFault("claim 1 if 1=1 ^zr 1=1", 0);
        e.ruleFault("claim 1 if 1=1 ^oz 1=1", 0);
        e.ruleFault("claim wet ^test", 0);
        e.ruleFault("claim ^wet" + "t".repeat(391), 0);
        e.ruleFault("claim ^wetifwet=1", 0);
    }

    // ---- promise 5: what words are worth

    @Sentence(promise = 5, words = "family, line, length (of the LINE)")
    static void familyLineLength(Edge e) {
        String court = "court 1 1;family 1;family 2;family 3;family 4;line 0 1 1 9;line 0 1 9 9;line 0 1 3 9;line 0 1 4 9;"
            + "line 0 1 5 9;line 0 1 6 9";
        for (int family = 0; family < 4; family++) {
            worth(e, () -> Edge.with(court), "family", family, 0, family);
        }
        for (int line = 0; line < 6; line++) {
            worth(e, () -> Edge.with(court), "line", 3, line, line);
        }
        worth(e, () -> Edge.with(court), "length", 0, 0, 1);
        worth(e, () -> Edge.with(court), "length", 0, 1, 9);
    }

    private static WashingLines laundry() {
        return Edge.with("court 1 1;family 20;family 20;family 20;line 0 1 9 9;line 0 1 8 9;line 0 1 7 9;linen 0 3 0;linen 0 2 1;"
            + "linen 0 1 20;linen 1 3 0;linen 1 4 19;hung 0 0;hung 1 0;hung 2 0;hung 3 0;hung 4 1");
    }

    /** Two hours on, with the wettest piece of family 0 taken and its middle one washed and hung again. */
    private static WashingLines laterLaundry() {
        WashingLines x = laundry();
        x.hour();
        x.hour();
        x.take(2);
        x.take(1);
        x.wash(1);
        x.hang(1, 0);
        return x;
    }

    @Sentence(promise = 5, words = "cells (LENGTHS of theirs that hang on it, together)")
    static void cells(Edge e) {
        worth(e, RuleEdges::laundry, "cells", 0, 0, 6);
        worth(e, RuleEdges::laundry, "cells", 1, 0, 3);
        worth(e, RuleEdges::laundry, "cells", 2, 0, 0);
        worth(e, RuleEdges::laundry, "cells", 0, 1, 0);
        worth(e, RuleEdges::laundry, "cells", 1, 1, 4);
        worth(e, RuleEdges::laundry, "cells", 1, 2, 0);
    }

    @Sentence(promise = 5, words = "wet (LENGTHS of those of these that are WET at all, together)")
    static void wet(Edge e) {
        worth(e, RuleEdges::laundry, "wet", 0, 0, 3);
        worth(e, RuleEdges::laundry, "wet", 1, 0, 0);
        worth(e, RuleEdges::laundry, "wet", 1, 1, 4);
        worth(e, RuleEdges::laundry, "wet", 2, 2, 0);
        Supplier<WashingLines> later = () -> {
            WashingLines x = laundry();
            x.hour();
            return x;
        };
        worth(e, later, "wet", 0, 0, 1);
    }

    @Sentence(promise = 5, words = "wettest (how WET the wettest of theirs on it is; 0)")
    static void wettest(Edge e) {
        worth(e, RuleEdges::laundry, "wettest", 0, 0, 20);
        worth(e, RuleEdges::laundry, "wettest", 1, 0, 0);
        worth(e, RuleEdges::laundry, "wettest", 1, 1, 19);
        worth(e, RuleEdges::laundry, "wettest", 2, 0, 0);
        worth(e, RuleEdges::laundry, "wettest", 0, 2, 0);
        worth(e, RuleEdges::laterLaundry, "wettest", 0, 0, 1);
        worth(e, RuleEdges::laterLaundry, "wettest", 1, 1, 17);
    }

    @Sentence(promise = 5, words = "all (how WET all of theirs on it are, together)")
    static void all(Edge e) {
        worth(e, RuleEdges::laundry, "all", 0, 0, 21);
        worth(e, RuleEdges::laundry, "all", 1, 0, 0);
        worth(e, RuleEdges::laundry, "all", 1, 1, 19);
        worth(e, RuleEdges::laundry, "all", 2, 1, 0);
        worth(e, RuleEdges::laterLaundry, "all", 0, 0, 1);
        worth(e, RuleEdges::laterLaundry, "all", 1, 1, 17);
    }

    @Sentence(promise = 5, words = "others (cells of all others on it)")
    static void others(Edge e) {
        worth(e, RuleEdges::laundry, "others", 0, 0, 3);
        worth(e, RuleEdges::laundry, "others", 1, 0, 6);
        worth(e, RuleEdges::laundry, "others", 2, 0, 9);
        worth(e, RuleEdges::laundry, "others", 1, 1, 0);
        worth(e, RuleEdges::laundry, "others", 0, 2, 0);
        worth(e, RuleEdges::laterLaundry, "others", 0, 0, 3);
        worth(e, RuleEdges::laterLaundry, "others", 1, 0, 5);
        worth(e, RuleEdges::laterLaundry, "others", 2, 0, 8);
        worth(e, RuleEdges::laterLaundry, "others", 0, 1, 4);
    }

    @Sentence(promise = 5, words = "held (1 if they HELD it last, else 0)")
    static void held(Edge e) {
        Supplier<WashingLines> later = () -> {
            WashingLines x = laundry();
            x.hour();
            return x;
        };
        for (int family = 0; family < 3; family++) {
            for (int line = 0; line < 3; line++) {
                worth(e, RuleEdges::laundry, "held", family, line, 0);
                worth(e, later, "held", family, line, family == line && line < 2 ? 1 : 0);
            }
        }
    }

    @Sentence(promise = 5, words = "pegs (they have left)")
    static void pegs(Edge e) {
        String court = "court 1 1;family 20;family 0;family 3;line 0 1 9 9;linen 2 1 0;linen 0 1 0;hung 0 0";
        worth(e, () -> Edge.with(court), "pegs", 0, 0, 20);
        worth(e, () -> Edge.with(court), "pegs", 1, 0, 0);
        worth(e, () -> Edge.with(court), "pegs", 2, 0, 1);
        worth(e, () -> Edge.with(court + ";hung 1 0"), "pegs", 0, 0, 18);
    }

    @Sentence(promise = 5, words = "air (so far), hour, rain (1 in it, else 0)")
    static void airHourRain(Edge e) {
        for (int hours = 0; hours <= 4; hours++) {
            int n = hours;
            Supplier<WashingLines> later = () -> {
                WashingLines x = Edge.with("court 1 1;family 20;family 9;line 0 1 7 9;linen 0 1 3;hung 0 0;rain 2 3");
                for (int i = 0; i < n; i++) {
                    x.hour();
                }
                return x;
            };
            worth(e, later, "hour", 0, 0, n);
            worth(e, later, "rain", 0, 0, n == 2 || n == 3 ? 1 : 0);
            worth(e, later, "air", 0, 0, 7 * n);
            worth(e, later, "air", 1, 0, 0);
        }
        for (int hours = 98; hours <= 100; hours++) {
            WashingLines x = Edge.under("court 1 1;family 20;line 0 1 7 9;rain 99 99", "claim rain");
            for (int i = 0; i < hours; i++) {
                x.hour();
            }
            e.due("RAIN at HOUR " + hours, x.line(0, 6), hours == 99 ? 0 : -1);
        }
    }

    @Sentence(promise = 5, words = "/ is towards 0, % its rest, both 0 by 0")
    static void division(Edge e) {
        String[][] due = {{"7/2", "3"}, {"8/2", "4"}, {"1/2", "0"}, {"0/2", "0"}, {"7%2", "1"}, {"8%2", "0"}, {"1%2", "1"},
            {"7/0", "0"}, {"7%0", "0"}, {"0/0", "0"}, {"0%0", "0"}, {"99999/99999", "1"}, {"99998/99999", "0"},
            {"7/pegs", "0"}, {"7%pegs", "0"}, {"7/hour", "0"}, {"1/1", "1"}, {"1%1", "0"}};
        String court = "court 1 1;family 0;line 0 1 5 9";
        for (String[] pair : due) {
            for (int more = 0; more <= 2; more++) {
                e.due(pair[0] + "=" + pair[1] + "+" + more + "-1",
                    owner(court, "claim 1 if " + pair[0] + "=" + pair[1] + "+" + more + "-1"), more == 1 ? 0 : -1);
            }
        }
        // Of sums below 0: 2 to the 63rd is the least number of all, -9223372036854775808.
        String least = "65536*65536*65536*32768";
        holds(e, least + "/65536/65536/65536=0-32768", true);
        holds(e, least + "/65536/65536/65536/3=0-10922", true);
        holds(e, least + "/65536/65536/65536%3=0-2", true);
        holds(e, least + "/65536/65536/65536/65536=0", true);
        holds(e, least + "/65536/65536/65536%65536=0-32768", true);
        holds(e, least + "%1=0", true);
        holds(e, least + "/1=" + least, true);
        holds(e, least + "/0=0", true);
    }

    @Sentence(promise = 5, words = "all goes round in 64 bits.")
    static void roundIn64Bits(Edge e) {
        String least = "65536*65536*65536*32768";
        holds(e, least + "<0", true);
        holds(e, least + "-1>0", true);
        holds(e, least + "-1+1<0", true);
        holds(e, "0-" + least + "=" + least, true);
        holds(e, least + "+" + least + "=0", true);
        holds(e, least + "*2=0", true);
        holds(e, least + "*3=" + least, true);
        holds(e, "65536*65536*65536*65536=0", true);
        holds(e, "65536*65536*65536*65535<0", true);
        holds(e, "65536*65536*65536*32767>0", true);
        holds(e, "65536*65536>65535*65537", true);
        holds(e, "65536*32768>0", true);
        holds(e, "65536*65536/65536=65536", true);
        e.due("the greatest is above 0", owner(ONE, "claim " + least + "-1"), 0);
        e.due("the least is not", owner(ONE, "claim " + least), -1);
        e.due("the greatest is more than the least", owner(PAIR, "claim " + least + "-1 if family=0;claim " + least), 0);
        e.due("the least is not more", owner(PAIR, "claim " + least + " if family=0;claim 1"), 1);
        e.due("beyond 32 bits", owner(PAIR, "claim 65536*65536 if family=0;claim 1"), 0);
        e.due("one less than the greatest", owner(PAIR, "claim " + least + "-1-family"), 0);
    }

    @Sentence(promise = 5, words = "Blanks (32) stand between as one likes.")
    static void blanks(Edge e) {
        e.ruleStands("claim1");
        e.ruleStands("  claim  1  +  wet  if  [  not  1  <=  2  ]  and  1  =  1  ;  claim  2  ");
        e.ruleStands("claim 1if[not[1<=2]]and 1=1or 2=2;claim 2");
        e.ruleFault("claim 1 if 1< ^= 2", 0);
        e.ruleFault("claim 1 ^1", 0);
        e.ruleFault("claim ^we t", 0);
        e.ruleFault("^cl aim 1", 0);
        for (int sign = 0; sign < 256; sign++) {
            if (sign != 32 && ";+-*/%".indexOf(sign) < 0) {
                e.ruleFault("claim 1 ^" + (char) sign, 0);
            }
            if (sign != 32) {
                e.ruleFault("^" + (char) sign, 0);
            }
        }
        e.courtStands("  court  1  1  ;  family  1  ", 0);
        e.courtStands("court1 1;family2;line0 1 1 1;linen0 1 1;hung0 0;rain0 0", 1);
        e.courtFault("court ^11", 1);
        e.courtFault("court^\t1 1", 0);
        e.courtFault("court 1^\n1", 0);
        e.courtFault("court 1^\u00a01", 0);
    }

    // ---- promise 5: what is too much

    @Sentence(promise = 5, words = "[ and not lie within one another 10 deep at most")
    static void tenDeep(Edge e) {
        for (int deep = 1; deep <= 10; deep++) {
            e.ruleStands("claim 1 if " + "[".repeat(deep) + "1=1" + "]".repeat(deep));
            e.ruleStands("claim 1 if " + "not ".repeat(deep) + "1=1");
            e.ruleStands("claim 1 if " + "[".repeat(deep - 1) + "not 1=1" + "]".repeat(deep - 1));
            e.ruleStands("claim 1 if " + "not ".repeat(deep - 1) + "[1=1]");
        }
        e.ruleFault("claim 1 if " + "[".repeat(10) + "^[1=1" + "]".repeat(11), 2);
        e.ruleFault("claim 1 if " + "not ".repeat(10) + "^not 1=1", 2);
        e.ruleFault("claim 1 if " + "[".repeat(10) + "^not 1=1" + "]".repeat(10), 2);
        e.ruleFault("claim 1 if " + "not ".repeat(10) + "^[1=1]", 2);
        e.ruleFault("claim 1 if " + "not[".repeat(5) + "^not 1=1" + "]".repeat(5), 2);
        e.ruleFault("claim 1 if " + "not[".repeat(5) + "1=1 and ^[1=1]" + "]".repeat(5), 2);
        // Those that stand side by side do not lie within one another.
        e.ruleStands("claim 1 if " + "[".repeat(9) + "[1=1] and [1=1] or not 1=1 and not 1=1" + "]".repeat(9) + " or not [1=1]");
        e.ruleStands("claim 1 if " + "not ".repeat(10) + "1=1 and " + "not ".repeat(10) + "1=1;claim 1 if " + "[".repeat(10)
            + "1=1" + "]".repeat(10));
        e.ruleFault("claim 1 if [1=1] and " + "[".repeat(10) + "^[1=1", 2);
        e.due("ten times not", owner(ONE, "claim 1 if " + "not ".repeat(10) + "1=1"), 0);
        e.due("nine times not", owner(ONE, "claim 1 if " + "not ".repeat(9) + "1=1"), -1);
        e.due("ten brackets", owner(ONE, "claim 1 if " + "[".repeat(10) + "1=1" + "]".repeat(10)), 0);
    }

    @Sentence(promise = 5, words = "at most 60 VALUES (of SUMS) and FACTS made of a SIGN, together.")
    static void sixtyParts(Edge e) {
        for (int values = 58; values <= 60; values++) {
            e.ruleStands("claim 1" + "+1".repeat(values - 1));
            e.ruleStands("claim wet" + "*wet".repeat(values - 1));
        }
        e.ruleFault("claim 1" + "+1".repeat(59) + "+^1", 3);
        e.ruleFault("claim wet" + "*wet".repeat(59) + "*^wet", 3);
        // Each FACT is three: two VALUES and its SIGN.
        e.ruleStands("claim 1 if 1=1" + " or 1=1".repeat(18));
        e.ruleStands("claim 1+1+1 if 1=1" + " or 1=1".repeat(18));
        e.ruleFault("claim 1+1+1 if 1=1" + " or 1=1".repeat(18) + " or ^1=1", 3);
        e.ruleFault("claim 1+1 if 1=1" + " or 1=1".repeat(18) + " or 1^=1", 3);
        e.ruleFault("claim 1 if 1=1" + " or 1=1".repeat(18) + " or 1=^1", 3);
        // not, [ and ] are none, and all CLAUSES are counted together.
        e.ruleStands("claim 1+1+1 if not [1=1]" + " or not [1=1]".repeat(18));
        e.ruleStands("claim 1" + ";claim 1".repeat(10) + ";claim 1" + "+1".repeat(48));
        e.ruleFault("claim 1" + ";claim 1".repeat(10) + ";claim 1" + "+1".repeat(48) + "+^1", 3);
        e.due("all sixty count", owner(ONE, "claim 1 if 1=1" + "+0".repeat(56)), 0);
        e.due("all sixty count", owner(ONE, "claim 1 if 1=0" + "+0".repeat(55) + "+1"), 0);
        e.due("all sixty count", owner(ONE, "claim 1 if 2=0" + "+0".repeat(55) + "+1"), -1);
        // A count begins anew with each text.
        WashingLines x = new WashingLines();
        for (int i = 0; i < 6; i++) {
            e.due("sixty again", Edge.rule(x, "claim 1" + "+1".repeat(59)), i);
        }
    }

    @Sentence(promise = 5, words = "1 a NUMBER of more digits, or not as told")
    static void moreDigits(Edge e) {
        e.ruleStands("claim 1 if 00000=99999");
        e.ruleFault("claim 1 if ^000000=1", 1);
        e.ruleFault("claim 1 if 1=^123456", 1);
        e.ruleFault("claim 1*^1000000", 1);
        e.ruleFault("claim 1 ^123456", 0);
        e.ruleFault("claim 1 if 1 ^123456", 0);
    }

    @Sentence(promise = 5, words = "2 too deep (at the sign that opens, or the word not)")
    static void tooDeep(Edge e) {
        e.ruleFault("claim 1 if " + "[ ".repeat(10) + "^[", 2);
        e.ruleFault("claim 1 if " + "[ ".repeat(10) + "^not", 2);
        e.ruleFault("claim 1 if " + "[ ".repeat(10) + "1=1 or ^not", 2);
        e.ruleFault("claim 1 if " + "[ ".repeat(10) + "1=^[", 0);
        e.ruleFault("claim 1 if " + "[ ".repeat(10) + "1=1 ^[", 0);
        e.ruleFault("claim 1 if " + "[ ".repeat(10) + "^nots", 0);
        e.ruleFault("claim 1 if " + "[ ".repeat(10) + "^]", 0);
        e.ruleFault("claim 1 if " + "[ ".repeat(10) + "^", 0);
        e.ruleFault("claim 1 if " + "[ ".repeat(9) + "[^", 0);
        e.ruleFault("claim 1 if " + "[ ".repeat(9) + "not^", 0);
    }

    @Sentence(promise = 5, words = "3 one VALUE or FACT too many (at its first byte; of a FACT at its SIGN)")
    static void partTooMany(Edge e) {
        e.ruleFault("claim 1" + "+1".repeat(59) + " + ^99999", 3);
        e.ruleFault("claim 1" + "+1".repeat(59) + " + ^wettest", 3);
        e.ruleFault("claim 1" + "+1".repeat(58) + " if 10 ^<= 10", 3);
        e.ruleFault("claim 1" + "+1".repeat(58) + " if 10 ^> 10", 3);
        e.ruleFault("claim 1" + "+1".repeat(57) + " if 10 >= ^10", 3);
        e.ruleFault("claim 1" + "+1".repeat(59) + " if ^10 >= 10", 3);
        e.ruleFault("claim 1" + "+1".repeat(59) + " if not [ ^10 >= 10", 3);
        e.ruleFault("claim 1" + "+1".repeat(58) + " if 10 + ^10", 3);
        e.ruleStands("claim 1" + "+1".repeat(56) + " if 10 >= 10");
    }

    @Sentence(promise = 5, words = "4 one CLAUSE too many")
    static void clauseTooMany(Edge e) {
        e.ruleFault("claim 1;".repeat(12) + "^claim 1", 4);
        e.ruleFault("claim 1;".repeat(12) + "^claim", 4);
        e.ruleFault("claim 1;".repeat(12) + "^claim123456", 4);
        e.ruleFault("claim 1;".repeat(12) + "^", 0);
        e.ruleFault("claim 1;".repeat(11) + "claim^", 0);
    }

    @Sentence(promise = 5, words = "Of one place the least.")
    static void theLeast(Edge e) {
        e.ruleFault("claim 1;".repeat(12) + "^claims", 0);
        e.ruleFault("claim 1;".repeat(12) + "^court", 0);
        e.ruleFault("claim 1;".repeat(12) + "^;", 0);
        e.ruleFault("claim 1" + "+1".repeat(59) + "+^123456", 1);
        e.ruleFault("claim 1" + "+1".repeat(59) + "+^wets", 0);
        e.ruleFault("claim 1" + "+1".repeat(59) + "+^;", 0);
        e.ruleFault("claim 1" + "+1".repeat(59) + "+^", 0);
        e.ruleFault("claim 1" + "+1".repeat(58) + " if 1 ^]", 0);
    }

    // ---- promise 5: what the call does

    @Sentence(promise = 5, words = "The TAPE, which is empty then, is a RULE: its number; -2 - its FAULT")
    static void itsNumber(Edge e) {
        WashingLines x = new WashingLines();
        e.due("an empty tape", x.rule(), -3);
        e.due("a fault", Edge.rule(x, "claim 1;"), Edge.fault(8, 0));
        e.due("bytes", x.count(14), 0);
        e.due("RULES", x.count(5), 0);
        e.due("the first", Edge.rule(x, "claim 1"), 0);
        e.due("bytes", x.count(14), 0);
        e.due("a fault", Edge.rule(x, "claims"), -3);
        e.due("RULES", x.count(5), 1);
        e.due("the second", Edge.rule(x, "claim 1"), 1);
        e.due("no COURT is needed, and none is made", x.count(0), 0);
        e.due("none is put IN FORCE", x.count(6), -1);
        WashingLines y = Edge.under(PAIR, "claim 1-family");
        e.due("a fault", Edge.rule(y, "claim family;claim"), Edge.fault(18, 0));
        e.due("the RULE that stood", y.line(0, 6), 0);
        e.due("the next", Edge.rule(y, "claim family"), 1);
        e.due("the RULE IN FORCE", y.line(0, 6), 0);
        e.due("force(1)", y.force(1), 0);
        e.due("the next IN FORCE", y.line(0, 6), 1);
    }

    @Sentence(promise = 5, words = "NONE, and nothing happens: there are 6.")
    static void thereAreSix(Edge e) {
        for (String text : new String[] {"claim 9", "claim", "", "claim 1" + " ".repeat(393)}) {
            Supplier<WashingLines> full = () -> {
                WashingLines x = Edge.under(PAIR, "claim 1", "claim 2", "claim 3", "claim 4", "claim 5");
                e.due("the sixth", Edge.rule(x, "claim 6"), 5);
                Edge.bring(x, text);
                return x;
            };
            e.refused("a seventh", full, x -> x.rule(), -1);
            WashingLines y = full.get();
            y.rule();
            e.due("bytes", y.count(14), text.length());
        }
    }

    // ---- promise 6

    @Sentence(promise = 6, words = "A RULE is IN FORCE (NONE: none): which was")
    static void whichWas(Edge e) {
        WashingLines x = new WashingLines();
        for (int rule = 0; rule < 6; rule++) {
            Edge.rule(x, "claim " + rule);
        }
        int was = -1;
        for (int rule : new int[] {0, 5, 5, -1, -1, 3, 0}) {
            e.due("force(" + rule + ")", x.force(rule), was);
            e.due("count(6)", x.count(6), rule);
            was = rule;
        }
        e.due("no ACT", x.count(12), 0);
    }

    @Sentence(promise = 6, words = "-2, and nothing happens, if there is none such.")
    static void noneSuch(Edge e) {
        for (int rule : new int[] {-2, 0, 1, 5, 6, Integer.MIN_VALUE, Integer.MAX_VALUE}) {
            e.refused("without RULES force(" + rule + ")", () -> Edge.with(PAIR), x -> x.force(rule), -2);
        }
        for (int rules = 1; rules <= 6; rules++) {
            String[] told = new String[rules];
            Arrays.fill(told, "claim 1-family");
            int next = rules;
            e.refused("force(" + rules + ")", () -> Edge.under(PAIR, told), x -> x.force(next), -2);
            e.refused("force(-2)", () -> Edge.under(PAIR, told), x -> x.force(-2), -2);
            e.refused("force(least)", () -> Edge.under(PAIR, told), x -> x.force(Integer.MIN_VALUE), -2);
            e.due("force(" + (rules - 1) + ")", Edge.under(PAIR, told).force(rules - 1), 0);
        }
    }

    @Sentence(promise = 6, words = "if the SUM of its first CLAUSE without a TEST, or whose TEST holds (0 without), is above "
        + "0 for them and more than for any other FAMILY; else nobody's")
    static void whose(Edge e) {
        e.due("0", owner(ONE, "claim 0"), -1);
        e.due("1", owner(ONE, "claim 1"), 0);
        e.due("-1", owner(ONE, "claim 0-1"), -1);
        e.due("1 and 0", owner(PAIR, "claim 1-family"), 0);
        e.due("0 and 1", owner(PAIR, "claim family"), 1);
        e.due("1 and 1", owner(PAIR, "claim 1"), -1);
        e.due("2 and 1", owner(PAIR, "claim 2-family"), 0);
        e.due("1 and 2", owner(PAIR, "claim 1+family"), 1);
        e.due("0 and -1", owner(PAIR, "claim 0-family"), -1);
        e.due("-1 and 1", owner(PAIR, "claim family*2-1"), 1);
        e.due("-1 and 0", owner(PAIR, "claim family-1"), -1);
        String four = "court 1 1;family 9;family 9;family 9;family 9;line 0 1 5 9";
        e.due("0 1 2 3", owner(four, "claim family"), 3);
        e.due("1 1 2 2", owner(four, "claim 1+family/2"), -1);
        e.due("2 2 1 1", owner(four, "claim 2-family/2"), -1);
        e.due("2 1 2 3", owner(four, "claim 2 if family=0;claim family"), 3);
        e.due("3 1 2 3", owner(four, "claim 3 if family=0;claim family"), -1);
        e.due("4 1 2 3", owner(four, "claim 4 if family=0;claim family"), 0);
        e.due("1 2 1 2", owner(four, "claim 1+family%2"), -1);
        e.due("1 2 1 1", owner(four, "claim 2 if family=1;claim 1"), 1);
        e.due("no FAMILY", owner("court 1 1;line 0 1 5 9", "claim 1"), -1);
        e.due("no TEST holds: 0", owner(ONE, "claim 1 if 1=2"), -1);
        e.due("no TEST holds for one", owner(PAIR, "claim 1 if family=1"), 1);
        e.due("the first that holds", owner(PAIR, "claim 1 if family=0;claim 9 if family=0;claim 2"), 1);
        e.due("the first without a TEST", owner(PAIR, "claim family;claim 9 if family=0"), 1);
        e.due("a first of 0", owner(ONE, "claim 0;claim 1"), -1);
        e.due("the last", owner(ONE, "claim 0 if 1=2;claim 0 if 1=2;claim 1 if 1=1"), 0);
    }

    @Sentence(promise = 6, words = "without a RULE the SUM is wet")
    static void withoutARule(Edge e) {
        String court = "court 1 1;family 9;family 9;line 0 1 9 9;linen 0 2 1;linen 1 2 20;linen 1 1 1;linen 0 4 0";
        int[][] due = {{-1, 0}, {0, 1}, {1, 2}, {-1, 3}, {1, 4}, {0, 5}, {1, 6}, {1, 7}, {-1, 8}, {0, 9}, {-1, 11}, {1, 12}};
        for (int[] pair : due) {
            StringBuilder hung = new StringBuilder(court);
            for (int linen = 0; linen < 4; linen++) {
                hung.append((pair[1] >> linen & 1) != 0 ? ";hung " + linen + " 0" : "");
            }
            e.due("those on it as bits " + pair[1], Edge.with(hung.toString()).line(0, 6), pair[0]);
        }
        WashingLines x = Edge.under(court + ";hung 0 0", "claim family");
        e.due("by the RULE", x.line(0, 6), 1);
        x.force(-1);
        e.due("by none", x.line(0, 6), 0);
        x.hour();
        e.due("by none, dry", x.line(0, 6), -1);
    }

    @Sentence(promise = 6, words = "A LINE that is CUT is nobody's.")
    static void cutIsNobodys(Edge e) {
        WashingLines x = Edge.under("court 1 1;family 9;line 0 1 5 9;line 0 1 3 9", "claim 1");
        e.due("not CUT", x.line(0, 6), 0);
        x.cut(0);
        e.due("CUT", x.line(0, 6), -1);
        e.due("the other one", x.line(1, 6), 0);
        e.due("LINES that are theirs", x.family(0, 2), 2);
        e.due("AIR of an HOUR", x.hour(), 3);
        e.due("HELD", x.line(0, 7), -1);
        x.mend(0);
        e.due("not CUT again", x.line(0, 6), 0);
    }
}
