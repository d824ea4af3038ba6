import java.util.Arrays;
import java.util.function.Supplier;

/** The boundaries of promises 27 to 35: logs and what they tell, laws, draws, counts, images. */
final class KeptEdges {
    private static final String FULL = CourtEdges.FULL;
    private static final String PAIR = "court 1 1;family 9;family 9;line 0 1 5 9;line 0 1 3 9";

    private KeptEdges() {
    }

    private static WashingLines ruled(String court, int rules) {
        String[] told = new String[rules];
        Arrays.fill(told, "claim 1-family");
        WashingLines x = Edge.with(court);
        for (String rule : told) {
            Edge.rule(x, rule);
        }
        return x;
    }

    // ---- promise 27

    @Sentence(promise = 27, words = "LOGS 0 to 9, told: behind the n-th HOUR of all (0 to 60) a FAMILY, or nobody (NONE), "
        + "HELD a LINE last.")
    static void logHours(Edge e) {
        for (int n = 0; n <= 60; n++) {
            int hour = n;
            WashingLines x = Edge.with(PAIR);
            Edge.rule(x, "claim 1 if hour=" + n + " and family=1");
            e.due("log", x.log(n, 0, 1), 1);
            e.due("behind HOUR " + hour, x.ruled(1), 0);
            e.due("behind HOUR " + hour, x.ruled(0), 1);
            if (n > 0) {
                e.due("log", x.log(n - 1, 0, -1), 2);
            }
            if (n < 60) {
                x.log(n + 1, 0, -1);
            }
            e.due("nobody ahead of it and behind it", x.ruled(0), 1);
            x.log(n, 1, 0);
            e.due("not so", x.ruled(0), 0);
        }
        e.due("n 61", Edge.with(PAIR).log(61, 0, 1), -2);
        e.due("n -2", Edge.with(PAIR).log(-2, 0, 1), -2);
    }

    @Sentence(promise = 27, words = "A LOG (n NONE: there are none then, 0; FAMILY NONE: nobody): how many")
    static void howManyLogs(Edge e) {
        WashingLines x = Edge.with(PAIR);
        for (int logs = 1; logs <= 10; logs++) {
            e.due("log", x.log(logs % 2 * 60, logs % 2, logs % 3 - 1), logs);
            e.due("LOGS", x.count(11), logs);
        }
        e.due("none then", x.log(-1, 0, 0), 0);
        e.due("LOGS", x.count(11), 0);
        e.due("all fits then", x.ruled(0), 1);
        e.due("the first again", x.log(0, 0, 0), 1);
        e.due("none then, whatever LINE and FAMILY", x.log(-1, -5, 77), 0);
        e.due("none of none", x.log(-1, 0, 0), 0);
        e.due("without a COURT", new WashingLines().log(-1, 0, 0), 0);
        WashingLines y = Edge.with(PAIR);
        y.log(0, 0, -1);
        e.due("nobody", y.ruled(0), 1);
        y.log(0, 1, 0);
        e.due("nobody, and a FAMILY", y.ruled(0), 0);
    }

    @Sentence(promise = 27, words = "-2, and nothing happens, without these, or if there are 10.")
    static void logWithoutThese(Edge e) {
        for (int n : new int[] {-2, -3, 61, 62, 99, Integer.MIN_VALUE, Integer.MAX_VALUE}) {
            e.refused("n " + n, () -> Edge.with(PAIR), x -> x.log(n, 0, 0), -2);
        }
        for (int line : new int[] {-1, 2, 3, 6, Integer.MIN_VALUE, Integer.MAX_VALUE}) {
            e.refused("LINE " + line, () -> Edge.with(PAIR), x -> x.log(0, line, 0), -2);
        }
        for (int family : new int[] {-2, 2, 3, 4, Integer.MIN_VALUE, Integer.MAX_VALUE}) {
            e.refused("FAMILY " + family, () -> Edge.with(PAIR), x -> x.log(0, 0, family), -2);
        }
        e.within("LINE of six", 0, 5, -2, n -> Edge.with(FULL).log(0, n, 0));
        e.within("FAMILY of four, or nobody", -1, 3, -2, n -> Edge.with(FULL).log(0, 0, n));
        e.within("n, or none", -1, 60, -2, n -> Edge.with(FULL).log(n, 0, 0));
        Supplier<WashingLines> ten = () -> {
            WashingLines x = Edge.with(PAIR);
            for (int i = 1; i <= 10; i++) {
                e.due("log", x.log(0, 0, -1), i);
            }
            return x;
        };
        e.refused("an eleventh", ten, x -> x.log(0, 0, 0), -2);
        WashingLines x = ten.get();
        x.log(0, 0, 0);
        e.due("the eleventh is none", x.ruled(0), 1);
        e.due("none then", x.log(-1, 0, 0), 0);
        e.due("a first", x.log(0, 0, 0), 1);
        e.refused("without a COURT", WashingLines::new, y -> y.log(0, 0, 0), -2);
        e.refused("without a COURT, nobody", WashingLines::new, y -> y.log(0, 0, -1), -2);
    }

    // ---- promise 28

    @Sentence(promise = 28, words = "RULED: which of the RULES, and of none, so that from the begin on, all as the text told "
        + "it, all LOGS are so: how many; the first (none ahead of 0, told as NONE).")
    static void howManyAreSo(Edge e) {
        for (int rules = 0; rules <= 6; rules++) {
            WashingLines x = ruled(PAIR, rules);
            e.due("without LOGS", x.ruled(0), rules + 1);
            e.due("without LOGS, none is the first", x.ruled(1), -1);
            x.log(0, 0, 0);
            e.due("0 HELD it", x.ruled(0), rules);
            e.due("0 HELD it, the first", x.ruled(1), rules == 0 ? -2 : 0);
            x.log(-1, 0, 0);
            x.log(0, 0, -1);
            e.due("nobody HELD it", x.ruled(0), 1);
            e.due("nobody HELD it, the first", x.ruled(1), -1);
            x.log(60, 1, 1);
            e.due("not so", x.ruled(0), 0);
        }
        WashingLines last = ruled(PAIR, 5);
        Edge.rule(last, "claim family");
        last.log(60, 1, 1);
        e.due("the sixth alone", last.ruled(0), 1);
        e.due("the sixth alone", last.ruled(1), 5);
        // All as the text told it: hours, hands and the rule in force do not matter.
        WashingLines begin = Edge.under("court 1 1;family 9;family 9;line 0 1 5 9;linen 0 1 3;hung 0 0", "claim 1 if family=1 "
            + "and wet=0");
        begin.log(0, 0, 0);
        begin.log(2, 0, 0);
        begin.log(3, 0, -1);
        e.due("as told", begin.ruled(1), -1);
        begin.hour();
        begin.take(0);
        begin.cut(0);
        begin.hour();
        e.due("as told, still", begin.ruled(1), -1);
        e.due("as told, still", begin.ruled(0), 1);
    }

    @Sentence(promise = 28, words = "RULED what 0: how many, 1: the first (NONE: none; -2: there is none such). -3 for "
        + "others, or without a COURT.")
    static void ruledWithoutThese(Edge e) {
        e.within("what", 0, 1, -3, n -> Edge.with(PAIR).ruled(n));
        e.due("without LINES", Edge.with("court 1 1").ruled(0), 1);
        e.due("without LINES", Edge.with("court 1 1").ruled(1), -1);
        for (int what = -1; what <= 2; what++) {
            e.due("without a COURT", new WashingLines().ruled(what), -3);
        }
        WashingLines x = Edge.with(PAIR);
        x.log(0, 0, 1);
        e.due("there is none such", x.ruled(0), 0);
        e.due("there is none such", x.ruled(1), -2);
    }

    // ---- promise 29

    @Sentence(promise = 29, words = "LOOK behind the n-th HOUR: the LINE by who HELD it these part best: the most alike are "
        + "fewest, of several the least; how many.")
    static void partBest(Edge e) {
        String court = "court 1 1;family 9;family 9;family 9;family 9;line 0 1 5 9;line 0 1 3 9;line 0 1 3 9";
        WashingLines one = Edge.with(court);
        e.due("none alone: the least LINE", one.look(0, 0), 0);
        e.due("none alone: 1", one.look(0, 1), 1);
        for (int rules = 1; rules <= 6; rules++) {
            e.due("all alike but none", ruled(court, rules).look(0, 1), rules);
            e.due("all alike: the least LINE", ruled(court, rules).look(0, 0), 0);
            WashingLines last = ruled(court, rules - 1);
            Edge.rule(last, "claim family");
            e.due("the last one is unlike", last.look(0, 1), Math.max(1, rules - 1));
            WashingLines third = Edge.with(court);
            for (int rule = 0; rule < rules; rule++) {
                Edge.rule(third, "claim family");
            }
            e.due("all alike, of the last FAMILY", third.look(0, 1), rules);
        }
        // Line 0: nobody, 0, 0, 0, 0. Line 1: nobody, 0, 1, 1, 0. Line 2: nobody, 0, 1, 2, 3.
        WashingLines x = Edge.with(court);
        Edge.rule(x, "claim 1 if family=0");
        Edge.rule(x, "claim 1 if line=0 and family=0;claim 1 if line>0 and family=1");
        Edge.rule(x, "claim 1 if line=0 and family=0;claim 1 if line>0 and family=line");
        Edge.rule(x, "claim 1 if line=0 and family=0;claim 1 if line=1 and family=0;claim 1 if line=2 and family=3");
        e.due("LINE 2 parts best", x.look(0, 0), 2);
        e.due("LINE 2: one by one", x.look(0, 1), 1);
        x.log(0, 2, 3);
        e.due("one is left", x.look(0, 0), 0);
        e.due("one is left", x.look(0, 1), 1);
        WashingLines y = Edge.with(court);
        Edge.rule(y, "claim 1 if hour<60 and family=0;claim 1 if family=line");
        Edge.rule(y, "claim 1 if hour<60 and family=0;claim 1 if family=line and line<2;claim 1 if line=2 and family=1");
        Edge.rule(y, "claim 1 if hour<60 and family=0;claim 1 if family=line and line<2;claim 1 if line=2 and family=0");
        e.due("behind HOUR 59", y.look(59, 0), 0);
        e.due("behind HOUR 59", y.look(59, 1), 3);
        e.due("behind HOUR 60", y.look(60, 0), 2);
        e.due("behind HOUR 60", y.look(60, 1), 1);
        WashingLines six = Edge.with(FULL);
        e.due("of six LINES", six.look(0, 0), 0);
        Edge.rule(six, "claim 1 if line=5 and family=3");
        e.due("the last of six LINES", six.look(60, 0), 5);
        e.due("the last of six LINES", six.look(60, 1), 1);
        WashingLines nobody = Edge.with(court);
        Edge.rule(nobody, "claim 0");
        Edge.rule(nobody, "claim 1 if line=1 and family=3");
        e.due("nobody counts as one", nobody.look(0, 0), 1);
        e.due("nobody counts as one", nobody.look(0, 1), 2);
    }

    @Sentence(promise = 29, words = "LOOK (n 0 to 60) what 0: the LINE, 1: how many; -2: no RULE is so, or there are no "
        + "LINES. NONE without these, or a COURT.")
    static void lookWithoutThese(Edge e) {
        e.within("n", 0, 60, -1, n -> Edge.with(PAIR).look(n, 0));
        e.within("n", 0, 60, -1, n -> Edge.with(PAIR).look(n, 1));
        e.within("what", 0, 1, -1, n -> Edge.with(PAIR).look(0, n));
        WashingLines x = ruled(PAIR, 6);
        x.log(0, 0, 1);
        for (int what = 0; what < 2; what++) {
            e.due("no RULE is so", x.look(0, what), -2);
            e.due("no LINES", Edge.with("court 1 1").look(0, what), -2);
            e.due("without a COURT", new WashingLines().look(0, what), -1);
        }
        e.due("no RULE is so, but n is 61", x.look(61, 0), -1);
        e.due("no LINES, but what is 2", Edge.with("court 1 1").look(0, 2), -1);
        WashingLines last = ruled(PAIR, 1);
        last.log(60, 1, 0);
        e.due("one is so", last.look(0, 0), 0);
    }

    // ---- promise 30

    @Sentence(promise = 30, words = "LAWS for a FAMILY: of each RULE, and of none, the AIR it would have by it in n HOURS (1 "
        + "to 60) from now on: which is most (none first, told as NONE); how much more AIR that is than it has now.")
    static void mostByLaw(Edge e) {
        for (int n = 1; n <= 60; n++) {
            WashingLines x = ruled(PAIR, 1);
            e.due("for " + n, x.laws(0, n, 1), 8 * n);
            e.due("for " + n, x.laws(0, n, 0), 0);
            e.due("the other one, for " + n, x.laws(1, n, 0), -1);
            e.due("the other one, for " + n, x.laws(1, n, 1), 0);
        }
        e.within("n", 1, 60, -2, n -> ruled(PAIR, 1).laws(0, n, 1));
        WashingLines none = Edge.with("court 1 1;family 9;line 0 1 5 9;linen 0 1 9;hung 0 0");
        e.due("without RULES", none.laws(0, 60, 0), -1);
        e.due("without RULES", none.laws(0, 60, 1), 45);
        for (int i = 0; i < 6; i++) {
            Edge.rule(none, i < 5 ? "claim wet" : "claim 1 if hour<10");
        }
        e.due("alike: none first", none.laws(0, 9, 0), -1);
        e.due("the sixth is most", none.laws(0, 10, 0), 5);
        e.due("the sixth is most", none.laws(0, 10, 1), 50);
        none.force(5);
        none.hour();
        e.due("more than now", none.laws(0, 9, 1), 45);
        e.due("which", none.laws(0, 9, 0), 5);
        e.due("none, alike", none.laws(0, 8, 0), -1);
        WashingLines two = ruled(PAIR, 2);
        e.due("the first of two", two.laws(0, 1, 0), 0);
    }

    @Sentence(promise = 30, words = "LAWS what 0: which (NONE: none), 1: how much. -2 without these.")
    static void lawsWithoutThese(Edge e) {
        e.within("FAMILY of two", 0, 1, -2, n -> Edge.with(PAIR).laws(n, 1, 0));
        e.within("FAMILY of four", 0, 3, -2, n -> Edge.with(FULL).laws(n, 1, 0));
        e.within("what", 0, 1, -2, n -> Edge.with(PAIR).laws(0, 1, n));
        e.within("n", 1, 60, -2, n -> Edge.with(PAIR).laws(0, n, 0));
        e.due("without a COURT", new WashingLines().laws(0, 1, 0), -2);
        e.due("without FAMILIES", Edge.with("court 1 1").laws(0, 1, 0), -2);
    }

    // ---- promises 31 and 32

    @Sentence(promise = 31, words = "x becomes a number: what it was; NONE, and nothing happens, below 0.")
    static void seeds(Edge e) {
        WashingLines x = new WashingLines();
        int was = 0;
        for (int seed : new int[] {0, 1, 2147483647, 2147483646, 65536, 0}) {
            e.due("seed(" + seed + ")", x.seed(seed), was);
            e.due("x", x.count(13), seed);
            was = seed;
        }
        x.seed(77);
        for (int seed : new int[] {-1, -2, -2147483647, Integer.MIN_VALUE}) {
            e.due("seed(" + seed + ")", x.seed(seed), -1);
            e.due("x", x.count(13), 77);
        }
    }

    /** The DRAW that comes when x was this. */
    private static int draw(long x) {
        return (int) ((x * 1103515245L + 12345L) % 2147483648L / 65536L);
    }

    @Sentence(promise = 32, words = "DRAWS: x (0 to 2147483647; 0 at first) becomes x * 1103515245 + 12345, of 2147483648 the "
        + "rest; a DRAW is x / 65536.")
    static void draws(Edge e) {
        e.due("x at first", new WashingLines().count(13), 0);
        String court = "court 1 5;family 9;line 0 1 5 9;linen 0 1 0;hung 0 0";
        int[] seeds = {0, 1, 2, 65535, 65536, 1073741823, 1073741824, 2147483646, 2147483647};
        for (int seed : seeds) {
            int due = draw(seed) % 100;
            for (int p = Math.max(0, due - 1); p <= Math.min(100, due + 2); p++) {
                WashingLines x = Edge.with(court);
                x.seed(seed);
                e.due("x " + seed + ", DRAW mod 100 " + due + ", p " + p, x.years(1, 1, p, 1), due < p ? 0 : 1);
                e.due("x as it was", x.count(13), seed);
            }
        }
        e.due("the first DRAW of 0", draw(0), 0);
        e.due("the first DRAW of 1", draw(1), 16838);
    }

    @Sentence(promise = 32, words = "YEARS m times (1 to 10; each from now on, as all is; x goes on) n HOURS (1 to 60)")
    static void years(Edge e) {
        String court = "court 1 5;family 9;line 0 1 5 9;linen 0 1 20;linen 0 1 1;linen 0 1 0;hung 0 0;hung 1 0;hung 2 0;"
            + "rain 30 99";
        for (int m = 1; m <= 10; m++) {
            e.due(m + " YEARS of an HOUR", Edge.with(court).years(m, 1, 0, 0), 5 * m);
            e.due(m + " YEARS of an HOUR, dry", Edge.with(court).years(m, 1, 0, 1), 2 * m);
        }
        for (int n = 1; n <= 60; n++) {
            // Wet at the begin of HOURS 0 to 19, and from 31 on.
            int air = 5 * (Math.min(n, 20) + Math.max(0, n - 31));
            e.due("a YEAR of " + n, Edge.with(court).years(1, n, 0, 0), air);
            e.due("ten YEARS of " + n, Edge.with(court).years(10, n, 0, 0), 10 * air);
        }
        e.within("m", 1, 10, -1, m -> Edge.with(court).years(m, 1, 0, 0));
        e.within("n", 1, 60, -1, n -> Edge.with(court).years(1, n, 0, 0));
        // From x 0 the DRAWS mod 100 are 0, 68, 88, 17: below 1 it rains in the first HOUR of the first YEAR alone.
        String one = "court 5 5;family 9;line 0 1 5 9;linen 0 1 0;hung 0 0";
        e.due("x goes on", Edge.with(one).years(4, 1, 1, 1), 3);
        e.due("x goes on", Edge.with(one).years(4, 1, 18, 1), 2);
        e.due("within a YEAR", Edge.with(one).years(1, 4, 18, 1), 0);
        e.due("within a YEAR", Edge.with(one).years(1, 4, 17, 1), 1);
        WashingLines later = Edge.with(one);
        later.take(0);
        e.due("as all is", later.years(1, 1, 100, 1), 0);
    }

    @Sentence(promise = 32, words = "in each a DRAW mod 100: below p (0 to 100) there is RAIN (as told, too): AIR got by all; "
        + "LINEN that hangs and is not WET at the end, all together (x as it was).")
    static void drawnRain(Edge e) {
        String court = "court 1 5;family 9;line 0 1 5 9;linen 0 1 0;linen 0 1 0;hung 0 0";
        e.within("p", 0, 100, -1, p -> Edge.with(court).years(1, 1, p, 0));
        int seed99 = 0;
        for (; draw(seed99) % 100 != 99 && seed99 < 100000; seed99++) {
            continue;
        }
        int[][] due = {{0, 1}, {99, 1}, {100, 0}};
        for (int[] row : due) {
            WashingLines x = Edge.with(court);
            x.seed(seed99);
            e.due("DRAW mod 100 of 99, p " + row[0], x.years(1, 1, row[0], 1), row[1]);
        }
        e.due("DRAW mod 100 of 0, p 0", Edge.with(court).years(1, 1, 0, 1), 1);
        e.due("DRAW mod 100 of 0, p 1", Edge.with(court).years(1, 1, 1, 1), 0);
        e.due("RAIN as told, p 0", Edge.with(court + ";rain 0 0").years(1, 1, 0, 1), 0);
        e.due("what does not hang is not counted", Edge.with(court).years(1, 1, 0, 1), 1);
        WashingLines air = Edge.under("court 1 5;family 9;family 9;line 0 1 5 9;line 0 1 3 9", "claim 1 if family=line and "
            + "rain=1");
        e.due("AIR got by all, in RAIN", air.years(1, 10, 100, 0), 80);
        e.due("AIR got by all, without", air.years(1, 10, 0, 0), 0);
        air.force(-1);
        e.due("AIR got by nobody", air.years(10, 60, 50, 0), 0);
        WashingLines so = Edge.under("court 1 5;family 9;line 0 1 5 9", "claim 1");
        so.hour();
        e.due("AIR so far is not counted", so.years(1, 1, 0, 0), 5);
    }

    @Sentence(promise = 32, words = "YEARS what 0: AIR, 1: LINEN. NONE without these, or a COURT.")
    static void yearsWithoutThese(Edge e) {
        e.within("what", 0, 1, -1, n -> Edge.with(PAIR).years(1, 1, 0, n));
        e.within("what, with the least COURT", 0, 1, -1, n -> Edge.with("court 1 1").years(10, 60, 100, n));
        for (int what = 0; what < 2; what++) {
            e.due("the least COURT", Edge.with("court 1 1").years(1, 1, 0, what), 0);
            e.due("without a COURT", new WashingLines().years(1, 1, 0, what), -1);
            e.due("m 0", Edge.with(PAIR).years(0, 1, 0, what), -1);
            e.due("n 0", Edge.with(PAIR).years(1, 0, 0, what), -1);
            e.due("n 61", Edge.with(PAIR).years(1, 61, 0, what), -1);
            e.due("m 11", Edge.with(PAIR).years(11, 1, 0, what), -1);
            e.due("p 101", Edge.with(PAIR).years(1, 1, 101, what), -1);
            e.due("p -1", Edge.with(PAIR).years(1, 1, -1, what), -1);
        }
    }

    // ---- promise 33

    @Sentence(promise = 33, words = "What 0: SUN, 1: SOAK, 2: FAMILIES, 3: LINES, 4: LINEN, 5: RULES, 6: the RULE IN FORCE "
        + "(NONE), 7: HOUR, 8: LINEN that hangs, as bits, 9: LINES that are CUT, as bits, 10: 1 if there is RAIN now, else 0, "
        + "11: LOGS, 12: ACTS that can be UNDONE, 13: x, 14: bytes of the TAPE.")
    static void counts(Edge e) {
        WashingLines x = Edge.with("court 5 20;family 20;family 20;family 20;family 20;line 0 1 9 9;line 0 1 9 9;line 0 1 9 9;"
            + "line 0 1 9 9;line 0 1 9 9;line 0 1 9 9" + ";linen 0 1 9;linen 1 1 9".repeat(5) + ";hung 0 0;hung 9 0;rain 1 1");
        int[] due = {5, 20, 4, 6, 10, 0, -1, 0, 513, 0, 0, 0, 0, 0, 0};
        counts(e, x, due);
        x.feed(0, 0, 0, 0, 0);
        due[14] = 20;
        counts(e, x, due);
        x.hour();
        due[7] = 1;
        due[10] = 1;
        due[12] = 1;
        counts(e, x, due);
        for (int linen = 1; linen < 9; linen++) {
            x.hang(linen, linen < 8 ? 0 : 1);
        }
        due[8] = 1023;
        due[12] = 9;
        counts(e, x, due);
        x.hour();
        for (int line = 0; line < 6; line++) {
            x.cut(line);
        }
        x.log(60, 5, -1);
        x.seed(2147483647);
        due[7] = 2;
        due[8] = 0;
        due[9] = 63;
        due[10] = 0;
        due[11] = 1;
        due[12] = 16;
        due[13] = 2147483647;
        counts(e, x, due);
        for (int rule = 0; rule < 6; rule++) {
            Edge.rule(x, "claim 1");
        }
        x.force(5);
        due[5] = 6;
        due[6] = 5;
        due[14] = 0;
        counts(e, x, due);
    }

    private static void counts(Edge e, WashingLines x, int[] due) {
        for (int what = 0; what < due.length; what++) {
            e.due("count(" + what + ")", x.count(what), due[what]);
        }
    }

    @Sentence(promise = 33, words = "NONE for others.")
    static void countOthers(Edge e) {
        for (int what : new int[] {-1, -2, 15, 16, Integer.MIN_VALUE, Integer.MAX_VALUE}) {
            e.due("count(" + what + ")", Edge.with(FULL).count(what), -1);
            e.due("count(" + what + ") of a new object", new WashingLines().count(what), -1);
        }
        e.due("count(0)", new WashingLines().count(0), 0);
        e.due("count(14)", new WashingLines().count(14), 0);
    }

    // ---- promises 34 and 35

    @Sentence(promise = 34, words = "An IMAGE is made: the HOUR; NONE for another k (it is made also where nothing was told "
        + "yet).")
    static void makesImages(Edge e) {
        for (int k = 0; k <= 3; k++) {
            WashingLines x = new WashingLines();
            e.due("where nothing was told", x.image(k), 0);
            Edge.court(x, PAIR);
            x.hour();
            e.due("the HOUR", x.image((k + 1) % 4), 1);
            e.due("back to where nothing was told", x.back(k), 0);
            e.due("no COURT", x.count(0), 0);
            e.due("no hour()", x.hour(), -1);
            e.due("the other IMAGE", x.back((k + 1) % 4), 1);
            e.due("made anew", x.image(k), 1);
            e.due("made anew", x.back(k), 1);
            e.due("a COURT", x.count(0), 1);
        }
        for (int k : new int[] {-1, -2, 4, 5, Integer.MIN_VALUE, Integer.MAX_VALUE}) {
            e.refused("image(" + k + ")", () -> Edge.with(PAIR), x -> x.image(k), -1);
            WashingLines x = Edge.with(PAIR);
            x.image(k);
            for (int made = 0; made <= 3; made++) {
                e.due("none was made by " + k, x.back(made), -1);
            }
        }
    }

    @Sentence(promise = 35, words = "All is as in an IMAGE: the HOUR; NONE, and nothing happens, if it was never made, or "
        + "without it.")
    static void neverMade(Edge e) {
        for (int k = 0; k <= 3; k++) {
            int made = k;
            for (int other = 0; other <= 3; other++) {
                int asked = other;
                Supplier<WashingLines> one = () -> {
                    WashingLines x = Edge.with(PAIR);
                    x.image(made);
                    x.hour();
                    x.cut(1);
                    return x;
                };
                if (asked == made) {
                    e.due("back(" + asked + ")", one.get().back(asked), 0);
                } else {
                    e.refused("back(" + asked + ") with image(" + made + ")", one, x -> x.back(asked), -1);
                }
            }
        }
        for (int k : new int[] {-1, -2, 4, 5, Integer.MIN_VALUE, Integer.MAX_VALUE}) {
            e.refused("back(" + k + ")", () -> {
                WashingLines x = Edge.with(PAIR);
                for (int made = 0; made <= 3; made++) {
                    x.image(made);
                }
                x.hour();
                return x;
            }, x -> x.back(k), -1);
        }
        e.refused("of a new object", WashingLines::new, x -> x.back(0), -1);
    }

    @Sentence(promise = 35, words = "IMAGES 0 to 3: all but the RULES and the TAPE, as it is (the RULE IN FORCE, what can be "
        + "UNDONE, too); gone back to, it is as it was (these stay).")
    static void asItWas(Edge e) {
        WashingLines x = Edge.under("court 1 5;family 9;family 9;line 0 1 5 9;linen 0 1 9;linen 1 1 9;hung 0 0;"
            + "rain 3 3", "claim family");
        for (int hour = 0; hour < 21; hour++) {
            x.hour();
        }
        x.take(0);
        x.seed(2147483647);
        x.log(60, 0, -1);
        String then = Edge.all(x);
        e.due("image(0)", x.image(0), 21);
        Edge.court(x, "court 2 2;family 1;family 1;family 1;line 5 6 7 8;line 4 5 6 7;linen 2 1 1");
        Edge.rule(x, "claim 9");
        x.force(1);
        x.seed(1);
        x.cut(0);
        x.log(0, 0, 0);
        x.log(0, 0, 0);
        x.feed(0, 0, 0, 0, 0);
        e.due("back(0)", x.back(0), 21);
        e.due("RULES stay", x.count(5), 2);
        e.due("the TAPE stays", x.count(14), 20);
        e.same("all but these", Edge.all(x).replace(" 2 0 21 ", " 1 0 21 ").replace(" 20\n", " 0\n"), then);
        e.due("whose by the RULE IN FORCE", x.line(0, 6), 1);
        for (int left = 19; left >= 0; left--) {
            e.due("undo()", x.undo(), left);
        }
        e.due("no more", x.undo(), -2);
        e.due("HOUR", x.count(7), 2);
        e.due("LINEN hangs", x.linen(0, 3), 0);
        e.due("back(0) again", x.back(0), 21);
        e.due("what can be UNDONE", x.count(12), 20);
        e.due("LINEN is down", x.linen(0, 3), -1);
        logsAsTheyWere(e);
        actsAsTheyWere(e);
    }

    /** As many acts are done behind the image as can be undone, so that nothing of what it holds is left elsewhere. */
    private static void actsAsTheyWere(Edge e) {
        for (int acts = 19; acts <= 23; acts++) {
            WashingLines x = Edge.with("court 1 5;family 9;line 0 1 5 9;linen 0 1 20;hung 0 0");
            for (int i = 0; i < acts; i++) {
                x.hour();
            }
            x.image(0);
            for (int i = 0; i < 20; i++) {
                x.cut(0);
                x.mend(0);
            }
            e.due("back(0)", x.back(0), acts);
            for (int hour = acts - 1; hour >= Math.max(0, acts - 20); hour--) {
                x.undo();
                e.due("HOUR", x.count(7), hour);
                e.due("WET", x.linen(0, 2), Math.max(0, 20 - hour));
                e.due("AIR", x.family(0, 1), 5 * Math.min(20, hour));
                e.due("it hangs", x.linen(0, 3), 0);
            }
            e.due("no more", x.undo(), -2);
        }
    }

    private static void logsAsTheyWere(Edge e) {
        WashingLines x = Edge.with(PAIR);
        Edge.rule(x, "claim 1 if hour=3 and line=1 and family=1");
        Edge.rule(x, "claim 1 if hour=4 and line=0 and family=0");
        x.log(3, 1, 1);
        x.image(1);
        x.log(-1, 0, 0);
        x.log(4, 0, 0);
        x.image(2);
        x.log(-1, 0, 0);
        x.log(5, 0, -1);
        e.due("the LOGS now", x.ruled(1), -1);
        x.back(1);
        e.due("the LOGS of IMAGE 1", x.ruled(1), 0);
        x.back(2);
        e.due("the LOGS of IMAGE 2", x.ruled(1), 1);
    }
}
