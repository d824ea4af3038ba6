/** The boundaries of promises 17 to 26: what is asked of hours to come, of hands, of ways and storms. */
final class AskEdges {
    private static final String FULL = CourtEdges.FULL;

    private AskEdges() {
    }

    private static void hours(WashingLines x, int n) {
        for (int i = 0; i < n; i++) {
            x.hour();
        }
    }

    // ---- promise 17

    @Sentence(promise = 17, words = "AHEAD n HOURS (0 to 100): who HELD a LINE last; how WET a LINEN is; AIR of a FAMILY.")
    static void aheadHours(Edge e) {
        String court = "court 1 20;family 9;family 9;line 0 1 7 9;linen 1 1 20;hung 0 0;rain 50 60";
        for (int what = 0; what < 3; what++) {
            int w = what;
            e.within("AHEAD " + what + " n", 0, 100, -2, n -> Edge.with(court).ahead(0, n, w));
        }
        WashingLines x = Edge.with(court);
        WashingLines y = Edge.with(court);
        for (int n = 0; n <= 100; n++) {
            e.due("HELD behind " + n, x.ahead(0, n, 0), y.line(0, 7));
            e.due("WET behind " + n, x.ahead(0, n, 1), y.linen(0, 2));
            e.due("AIR behind " + n, x.ahead(1, n, 2), y.family(1, 1));
            y.hour();
        }
        // WET at the begin of HOURS 0 to 19 and 51 to 80: 20, 1 less each; wet by RAIN behind HOUR 50, less from 61 on.
        e.due("AIR behind 100", x.ahead(1, 100, 2), 7 * (20 + 30));
        e.due("HELD behind 20", x.ahead(0, 20, 0), 1);
        e.due("HELD behind 21", x.ahead(0, 21, 0), -1);
        e.due("WET behind 19", x.ahead(0, 19, 1), 1);
        e.due("WET behind 50", x.ahead(0, 50, 1), 0);
        e.due("WET behind 51", x.ahead(0, 51, 1), 20);
        e.due("WET behind 61", x.ahead(0, 61, 1), 20);
        e.due("WET behind 62", x.ahead(0, 62, 1), 19);
        e.due("AIR of the other one", x.ahead(0, 100, 2), 0);
    }

    @Sentence(promise = 17, words = "AHEAD what 0: who HELD the LINE (of that number; NONE: nobody), 1: how WET the LINEN is, "
        + "2: AIR of the FAMILY. -2 without these.")
    static void aheadWithoutThese(Edge e) {
        e.within("LINE of six", 0, 5, -2, n -> Edge.with(FULL).ahead(n, 1, 0));
        e.within("LINEN of ten", 0, 9, -2, n -> Edge.with(FULL).ahead(n, 1, 1));
        e.within("FAMILY of four", 0, 3, -2, n -> Edge.with(FULL).ahead(n, 1, 2));
        e.within("what", 0, 2, -2, n -> Edge.with(FULL).ahead(0, 1, n));
        String court = "court 1 1;family 9;family 9;line 0 1 7 9;linen 1 1 20;linen 1 1 20;linen 1 1 7";
        e.within("LINE of one", 0, 0, -2, n -> Edge.with(court).ahead(n, 1, 0));
        e.within("LINEN of three", 0, 2, -2, n -> Edge.with(court).ahead(n, 1, 1));
        e.within("FAMILY of two", 0, 1, -2, n -> Edge.with(court).ahead(n, 1, 2));
        WashingLines none = new WashingLines();
        WashingLines least = Edge.with("court 1 1");
        for (int what = 0; what < 3; what++) {
            e.due("without a COURT", none.ahead(0, 0, what), -2);
            e.due("of none", least.ahead(0, 0, what), -2);
        }
        e.due("nobody", Edge.with(court).ahead(0, 1, 0), -1);
    }

    @Sentence(promise = 17, words = "(By what is asked nothing changes; HOURS go on by the RULE IN FORCE, beyond 999, too.)")
    static void nothingChanges(Edge e) {
        WashingLines x = Edge.under("court 1 9;family 9;family 9;line 0 1 7 9;linen 1 1 9;linen 0 1 9;linen 0 2 9;hung 0 0;"
            + "rain 1 2", "claim wet", "claim 1-family");
        x.seed(99);
        x.log(1, 0, 1);
        x.hour();
        String before = Edge.all(x);
        e.due("ahead", x.ahead(0, 100, 2), 0);
        e.due("ahead by the RULE IN FORCE", x.ahead(1, 3, 2), 28);
        e.due("dries", x.dries(0), 12);
        e.due("most", x.most(0, 12, 0), 77);
        e.due("game", x.game(0, 1, 3, 1), 2);
        e.due("free", x.free(0, 0), 1);
        e.due("few", x.few(0, 0, 0), 1);
        e.due("way", x.way(0, 1, 0), 7);
        e.due("bears", x.bears(0), 1);
        e.due("storm", x.storm(99), 1);
        e.due("worth", x.worth(0, 60), 7 * 11);
        e.due("ruled", x.ruled(0), 2);
        e.due("look", x.look(60, 0), 0);
        e.due("laws", x.laws(0, 60, 1), 420);
        e.due("years", x.years(10, 60, 0, 0), 10 * 7 * 11);
        e.same("all behind it", Edge.all(x), before);
        e.due("undo", x.undo(), 0);
        // Beyond 999 one comes by more than 512 calls alone, where the answers are free; it is kept all the same.
        WashingLines y = Edge.under("court 1 1;family 1;line 0 1 7 9", "claim 1 if hour>=1000");
        hours(y, 999);
        e.due("to HOUR 1000", y.ahead(0, 1, 2), 0);
        e.due("to HOUR 1001", y.ahead(0, 2, 2), 7);
        e.due("to HOUR 1099", y.ahead(0, 100, 2), 7 * 99);
    }

    // ---- promise 18

    @Sentence(promise = 18, words = "DRIES of a LINEN: the number of the first HOUR, this one the first, of 200, at whose "
        + "begin it hangs and is not WET.")
    static void firstDryHour(Edge e) {
        for (int wet = 0; wet <= 20; wet++) {
            for (int sun = 1; sun <= 5; sun += 2) {
                WashingLines x = Edge.with("court " + sun + " 1;family 9;line 0 1 7 9;linen 0 1 " + wet + ";hung 0 0");
                int due = (wet + sun - 1) / sun;
                e.due("WET " + wet + " SUN " + sun, x.dries(0), due);
                x.hour();
                e.due("an HOUR later", x.dries(0), Math.max(1, due));
                e.due("it is WET at the begin of the HOUR ahead", due == 0 || due == 1 || x.ahead(0, due - 2, 1) > 0, true);
            }
        }
        // The latest that there is: RAIN to HOUR 99, then 20 HOURS of SUN 1.
        WashingLines late = Edge.with("court 1 20;family 9;line 0 1 7 9;linen 0 1 0;linen 0 1 1;hung 0 0;hung 1 0;rain 1 99");
        e.due("dry now, this one the first", late.dries(0), 0);
        e.due("WET", late.dries(1), 1);
        late.hour();
        e.due("dry now", late.dries(0), 1);
        late.hour();
        e.due("the latest", late.dries(0), 120);
        e.due("the latest", late.dries(1), 120);
        hours(late, 117);
        e.due("HOUR", late.count(7), 119);
        e.due("in one HOUR", late.dries(0), 120);
        late.hour();
        e.due("this HOUR", late.dries(0), 120);
        late.hour();
        e.due("this HOUR", late.dries(0), 121);
    }

    @Sentence(promise = 18, words = "DRIES; -2: in none of these; NONE without that LINEN.")
    static void neverDry(Edge e) {
        WashingLines x = Edge.with("court 1 1;family 9;line 0 1 7 9;linen 0 1 3;linen 0 1 0;linen 0 1 3;hung 0 0");
        e.due("it hangs", x.dries(0), 3);
        e.due("dry, but it does not hang", x.dries(1), -2);
        e.due("WET, and it does not hang", x.dries(2), -2);
        x.take(0);
        e.due("taken", x.dries(0), -2);
        for (int far : new int[] {3, 4, 10, -1, -2, Integer.MIN_VALUE, Integer.MAX_VALUE}) {
            e.due("LINEN " + far, x.dries(far), -1);
        }
        e.within("LINEN of ten", 0, 9, -1, n -> Edge.with(FULL).dries(n));
        e.due("without a COURT", new WashingLines().dries(0), -1);
    }

    // ---- promise 19

    @Sentence(promise = 19, words = "MOST of a FAMILY for n HOURS (1 to 12)")
    static void mostHours(Edge e) {
        String court = "court 1 20;family 2;line 0 1 9 9;linen 0 1 20";
        for (int n = 1; n <= 12; n++) {
            e.due("for " + n, Edge.with(court).most(0, n, 0), 9 * n);
            e.due("for " + n, Edge.with(court.replace("1 20", "1 12").replace("1 20", "1 3")).most(0, n, 0), 9 * n);
        }
        e.within("n", 1, 12, -3, n -> Edge.with(court).most(0, n, 0));
        e.within("n", 1, 12, -3, n -> Edge.with(court).most(0, n, 4));
        e.due("WET for 11", Edge.with("court 1 20;family 2;line 0 1 9 9;linen 0 1 11").most(0, 12, 0), 99);
    }

    @Sentence(promise = 19, words = "which LINE for each of its first four LINEN that do not hang (or none, NONE), HUNG now, "
        + "one behind the other, by numbers, so that its AIR is most then: how much")
    static void firstFour(Edge e) {
        // The fifth alone could take the long line.
        String court = "court 1 1;family 20;family 20;line 0 1 9 9;line 0 1 1 9;linen 0 1 0;linen 0 1 0;linen 0 1 0;linen 0 1 0;"
            + "linen 0 1 20";
        WashingLines five = Edge.with(court);
        e.due("AIR without the fifth", five.most(0, 1, 0), 0);
        five.hang(3, 1);
        e.due("it is the fourth then", five.most(0, 1, 0), 9);
        e.due("its LINE", five.most(0, 1, 4), 0);
        e.due("the LINE of the third", five.most(0, 1, 3), -1);
        WashingLines last = Edge.under("court 1 1;family 20;line 0 1 9 9;line 0 1 9 9;line 0 1 9 9;line 0 1 9 9;line 0 1 9 9;"
            + "line 0 1 9 9" + ";linen 0 1 0".repeat(4), "claim 1 if line=5 and cells=4");
        e.due("all four on the last LINE", last.most(0, 12, 0), 108);
        for (int what = 1; what <= 4; what++) {
            e.due("the last LINE", last.most(0, 12, what), 5);
        }
        WashingLines theirs = Edge.under("court 1 1;family 9;family 9;line 0 1 5 9;linen 1 1 9;linen 0 1 9", "claim others");
        e.due("its LINEN alone", theirs.most(0, 1, 0), 0);
        e.due("its LINEN alone", theirs.most(0, 1, 2), -2);
        // What others have does not count, nor what hangs.
        WashingLines x = Edge.with("court 1 1;family 20;family 20;line 0 1 9 9;linen 1 1 9;linen 0 1 9;linen 1 1 9;"
            + "linen 0 1 9;hung 1 0");
        e.due("what hangs goes on", x.most(0, 1, 0), 9);
        e.due("its first that does not hang", x.most(0, 1, 1), -1);
        e.due("its second", x.most(0, 1, 2), -2);
        // As HANG lets: pegs for one alone; a line for one alone.
        WashingLines pegs = Edge.with("court 1 1;family 3;line 0 1 2 9;line 0 1 9 9;linen 0 1 5;linen 0 1 5");
        e.due("PEGS for one", pegs.most(0, 1, 0), 9);
        WashingLines four = Edge.with("court 1 1;family 4;line 0 1 2 9;line 0 1 9 9;linen 0 1 5;linen 0 1 5");
        e.due("PEGS for two", four.most(0, 1, 0), 11);
        WashingLines length = Edge.with("court 1 1;family 9;line 0 1 3 9;line 0 1 4 9;linen 0 4 5;linen 0 4 5");
        e.due("LENGTH for one", length.most(0, 1, 0), 4);
        WashingLines longer = Edge.with("court 1 1;family 9;line 0 1 4 9;line 0 1 4 9;linen 0 4 5;linen 0 4 5");
        e.due("LENGTH for two", longer.most(0, 1, 0), 8);
        longer.cut(0);
        e.due("one LINE is CUT", longer.most(0, 1, 0), 4);
        WashingLines air = Edge.with("court 1 1;family 9;line 0 1 4 9;linen 0 4 5;hung 0 0");
        hours(air, 2);
        e.due("AIR so far counts", air.most(0, 1, 0), 12);
    }

    @Sentence(promise = 19, words = "of several the first row (by LINEN; none ahead of LINE 0).")
    static void firstRow(Edge e) {
        WashingLines dry = Edge.with("court 1 1;family 9;line 0 1 9 9" + ";linen 0 1 0".repeat(4));
        for (int what = 1; what <= 4; what++) {
            e.due("nothing helps: none", dry.most(0, 1, what), -1);
        }
        WashingLines one = Edge.with("court 1 1;family 9;line 0 1 4 9;line 0 1 4 9;linen 0 1 5;linen 0 1 5");
        e.due("both LINES", one.most(0, 1, 0), 8);
        e.due("the first piece on LINE 0", one.most(0, 1, 1), 0);
        e.due("the second one on LINE 1", one.most(0, 1, 2), 1);
        WashingLines two = Edge.with("court 1 1;family 9;line 0 1 4 9;linen 0 1 5;linen 0 1 5;linen 0 1 5");
        e.due("none", two.most(0, 1, 1), -1);
        e.due("none", two.most(0, 1, 2), -1);
        e.due("the last one alone", two.most(0, 1, 3), 0);
        WashingLines three = Edge.with("court 1 1;family 2;line 0 1 3 9;line 0 1 4 9;line 0 1 4 9;linen 0 1 5");
        e.due("the first of LINES alike", three.most(0, 1, 1), 1);
    }

    @Sentence(promise = 19, words = "MOST what 0: AIR, 1 to 4: the LINE of that LINEN (NONE: none; -2: there are not so "
        + "many). -3 without these.")
    static void notSoMany(Edge e) {
        for (int pieces = 0; pieces <= 6; pieces++) {
            WashingLines x = Edge.with("court 1 1;family 20;family 9;line 0 1 9 9;linen 1 1 0" + ";linen 0 1 0".repeat(pieces));
            e.due("AIR", x.most(0, 1, 0), 0);
            for (int what = 1; what <= 4; what++) {
                e.due("of " + pieces + " what " + what, x.most(0, 1, what), what <= pieces ? -1 : -2);
            }
            e.due("of " + pieces + " what 5", x.most(0, 1, 5), -3);
        }
        e.within("what", 0, 4, -3, n -> Edge.with(FULL).most(0, 1, n));
        e.within("FAMILY of four", 0, 3, -3, n -> Edge.with(FULL).most(n, 1, 0));
        e.within("FAMILY of one", 0, 0, -3, n -> Edge.with("court 1 1;family 1").most(n, 1, 0));
        e.due("without a COURT", new WashingLines().most(0, 1, 0), -3);
        e.due("without FAMILIES", Edge.with("court 1 1").most(0, 1, 0), -3);
        WashingLines up = Edge.with("court 1 1;family 20;line 0 1 9 9;linen 0 1 0;hung 0 0");
        e.due("all hangs", up.most(0, 1, 1), -2);
    }

    // ---- promise 20

    @Sentence(promise = 20, words = "GAME of two FAMILIES for n turns (1 to 3): by turns, the first one first, one HANGS a "
        + "LINEN of theirs, or nothing, then it is an HOUR")
    static void turns(Edge e) {
        String court = "court 1 1;family 8;family 8;line 0 1 4 9;line 0 1 5 9;linen 0 1 9;linen 1 1 9;linen 0 1 9";
        // First 0 takes the line of 5. Then 1 hangs there, too, and nobody has it, as the line of 4 is worth less. With a third
        // turn 0 hangs its other piece and has a line again.
        int[] due = {5, 5, 10};
        for (int n = 1; n <= 3; n++) {
            e.due("for " + n, Edge.with(court).game(0, 1, n, 0), due[n - 1]);
            e.due("for " + n + ", the first act", Edge.with(court).game(0, 1, n, 1), 10);
        }
        e.within("n", 1, 3, -100000, n -> Edge.with(court).game(0, 1, n, 0));
        e.within("n", 1, 3, -100000, n -> Edge.with(court).game(0, 1, n, 1));
        e.due("the other one first", Edge.with(court).game(1, 0, 1, 0), 5);
        // By this rule one would like to hang what is the other one's.
        WashingLines theirs = Edge.under("court 1 1;family 8;family 8;line 0 1 5 9;linen 0 1 9;linen 1 1 9", "claim others");
        e.due("LINEN of theirs alone", theirs.game(0, 1, 1, 0), 0);
        e.due("LINEN of theirs alone, first", theirs.game(0, 1, 1, 1), -1);
        e.due("LINEN of theirs alone, in turn", theirs.game(0, 1, 2, 0), 0);
        WashingLines x = Edge.with("court 1 1;family 1;family 2;line 0 1 4 9;linen 0 1 9;linen 1 1 9");
        e.due("PEGS for none", x.game(0, 1, 1, 0), 0);
        e.due("PEGS for none: nothing", x.game(0, 1, 1, 1), -1);
        e.due("PEGS for one", x.game(1, 0, 1, 0), 4);
        e.due("PEGS for one", x.game(1, 0, 1, 1), 1);
        e.due("one turn of the first one, three HOURS", x.game(1, 0, 3, 0), 12);
        e.due("the other one in the second turn", x.game(0, 1, 3, 0), -8);
    }

    @Sentence(promise = 20, words = "AIR of the first one less that of the second one behind the last turn, if both do their "
        + "best; the first one's first act: 10 times the LINE and the LINEN (NONE: nothing), of several nothing, then the least.")
    static void firstAct(Edge e) {
        String lines = "court 1 1;family 20;family 20;line 0 1 1 9;line 0 1 2 9;line 0 1 3 9;line 0 1 1 9;line 0 1 2 9;"
            + "line 0 1 4 9";
        WashingLines last = Edge.with(lines + ";linen 1 1 0".repeat(9) + ";linen 0 4 9");
        e.due("LINE 5 and LINEN 9", last.game(0, 1, 1, 1), 59);
        e.due("how much", last.game(0, 1, 1, 0), 4);
        for (int line = 0; line < 6; line++) {
            for (int linen = 0; linen < 10; linen++) {
                StringBuilder court = new StringBuilder("court 1 1;family 20;family 20");
                for (int i = 0; i < 6; i++) {
                    court.append(i == line ? ";line 0 1 4 9" : ";line 0 1 3 9");
                }
                for (int i = 0; i < 10; i++) {
                    court.append(i == linen ? ";linen 0 4 9" : ";linen 1 1 9");
                }
                e.due("LINE " + line + " and LINEN " + linen, Edge.with(court.toString()).game(0, 1, 1, 1), 10 * line + linen);
            }
        }
        WashingLines first = Edge.with("court 1 1;family 20;family 20;line 0 1 1 9;linen 0 1 9;linen 0 1 9");
        e.due("LINE 0 and LINEN 0", first.game(0, 1, 1, 1), 0);
        WashingLines dry = Edge.with("court 1 1;family 20;family 20;line 0 1 1 9;linen 0 1 0;linen 1 1 0");
        e.due("nothing is as good", dry.game(0, 1, 3, 1), -1);
        e.due("nothing is got", dry.game(0, 1, 3, 0), 0);
        e.due("none to HANG", Edge.with("court 1 1;family 20;family 20;line 0 1 1 9").game(0, 1, 3, 1), -1);
        // Line 0 has no place for piece 0, so that the least is piece 1 there, ahead of both on line 1.
        WashingLines least = Edge.with("court 1 1;family 20;family 20;line 0 1 5 9;line 0 1 5 9;linen 0 2 9;linen 0 1 9;"
            + "linen 0 4 0;hung 2 0");
        e.due("the least of several", least.game(0, 1, 1, 1), 1);
        e.due("the least of several", least.game(0, 1, 2, 1), 1);
        WashingLines behind = Edge.with("court 1 1;family 20;family 20;line 0 1 9 9;line 0 1 5 9;linen 0 1 9;linen 1 1 9;"
            + "hung 1 0");
        hours(behind, 2);
        e.due("AIR of the second one is more", behind.game(0, 1, 1, 0), -18);
        e.due("it is done away with", behind.game(0, 1, 1, 1), 0);
        e.due("from the other side", behind.game(1, 0, 1, 0), 27);
    }

    @Sentence(promise = 20, words = "GAME what 0: how much, 1: the first act. -100000 without these (unlike).")
    static void gameWithoutThese(Edge e) {
        WashingLines x = Edge.with(FULL);
        for (int one = -1; one <= 4; one++) {
            for (int other = -1; other <= 4; other++) {
                boolean there = one >= 0 && one < 4 && other >= 0 && other < 4 && one != other;
                e.due("of " + one + " and " + other, x.game(one, other, 1, 0) != -100000, there);
            }
        }
        e.within("the first of two", 0, 0, -100000, n -> Edge.with("court 1 1;family 1;family 1").game(n, 1, 1, 0));
        e.within("the second of two", 1, 1, -100000, n -> Edge.with("court 1 1;family 1;family 1").game(0, n, 1, 0));
        e.within("what", 0, 1, -100000, n -> Edge.with(FULL).game(0, 1, 1, n));
        e.due("alike", Edge.with("court 1 1;family 1").game(0, 0, 1, 0), -100000);
        e.due("without a COURT", new WashingLines().game(0, 1, 1, 0), -100000);
    }

    // ---- promises 21 and 22

    @Sentence(promise = 21, words = "FREE for a LINE: the fewest LINEN on it to TAKE so that it is nobody's then; of several "
        + "sets the least as bits (LINEN 0: 1).")
    static void fewestToTake(Edge e) {
        String court = "court 1 1;family 20;family 20;line 0 1 9 9" + ";linen 0 1 1".repeat(9) + ";linen 1 1 1";
        for (int pieces = 0; pieces <= 9; pieces++) {
            StringBuilder hung = new StringBuilder(court);
            for (int linen = 0; linen < pieces; linen++) {
                hung.append(";hung ").append(8 - linen).append(" 0");
            }
            WashingLines x = Edge.with(hung.toString());
            e.due("all " + pieces, x.free(0, 0), pieces);
            e.due("all " + pieces, x.free(0, 1), 512 - (1 << (9 - pieces)));
        }
        WashingLines two = Edge.with("court 1 1;family 20;family 20;line 0 1 9 9;linen 0 1 1;linen 0 1 1;linen 0 2 1;linen 1 2 1;"
            + "linen 1 1 1;hung 0 0;hung 1 0;hung 2 0;hung 3 0;hung 4 0");
        e.due("4 to 3: one", two.free(0, 0), 1);
        e.due("4 to 3: the least", two.free(0, 1), 1);
        two.take(0);
        e.due("3 to 3: none", two.free(0, 0), 0);
        e.due("3 to 3: none", two.free(0, 1), 0);
        two.take(1);
        e.due("2 to 3: the one of 1", two.free(0, 1), 16);
        two.take(4);
        two.hang(0, 0);
        two.hang(1, 0);
        e.due("4 to 2: the one of 2, not the two of 1", two.free(0, 0), 1);
        e.due("4 to 2: the one of 2", two.free(0, 1), 4);
        two.cut(0);
        e.due("CUT: nobody's", two.free(0, 0), 0);
        e.due("CUT: nobody's", two.free(0, 1), 0);
        WashingLines rain = Edge.under("court 1 1;family 6;line 0 1 9 9;linen 0 1 1;hung 0 0;rain 1 1", "claim rain*cells+held");
        for (int due : new int[] {0, 1, -2}) {
            e.due("as it is now, RAIN and HELD", rain.free(0, 0), due);
            rain.hour();
        }
        // To take what is another's would make it more theirs; pegs that come free count at once.
        WashingLines pegs = Edge.under("court 1 1;family 6;family 20;line 0 1 9 9;line 0 1 9 9;linen 0 1 1;linen 0 1 1;"
            + "linen 1 1 1;hung 0 0;hung 1 0;hung 2 0", "claim 1 if family=0 and pegs<5");
        e.due("the PEGS of two", pegs.free(0, 0), 2);
        e.due("the PEGS of two", pegs.free(0, 1), 3);
        pegs.take(0);
        pegs.take(1);
        e.due("nobody's", pegs.free(0, 0), 0);
        pegs.hang(0, 1);
        pegs.hang(1, 1);
        e.due("what hangs elsewhere is not taken", pegs.free(0, 0), -2);
    }

    @Sentence(promise = 21, words = "FREE what 0: how many, 1: the set; -2: by none. NONE without these.")
    static void freeWithoutThese(Edge e) {
        WashingLines x = Edge.under("court 1 1;family 20;line 0 1 9 9;line 0 1 9 9;linen 0 1 1;hung 0 0", "claim 1", "claim 1 "
            + "if line=0");
        for (int line = 0; line < 2; line++) {
            e.due("by none", x.free(line, 0), -2);
            e.due("by none", x.free(line, 1), -2);
        }
        x.force(1);
        e.due("LINE 1 is nobody's", x.free(1, 0), 0);
        e.due("LINE 0 by none", x.free(0, 0), -2);
        e.within("LINE of six", 0, 5, -1, n -> Edge.with(FULL).free(n, 0));
        e.within("LINE of two", 0, 1, -1, n -> Edge.with("court 1 1;line 0 1 1 1;line 0 1 1 1").free(n, 0));
        e.within("what", 0, 1, -1, n -> Edge.with(FULL).free(0, n));
        e.due("without a COURT", new WashingLines().free(0, 0), -1);
        e.due("without LINES", Edge.with("court 1 1").free(0, 0), -1);
    }

    @Sentence(promise = 22, words = "FEW of a FAMILY for a LINE: the fewest LINEN of theirs that do not hang, HUNG there now "
        + "by numbers, so that it is theirs then; of several sets the least as bits.")
    static void fewestToHang(Edge e) {
        String pieces = ";linen 1 1 1".repeat(2) + ";linen 0 1 1".repeat(8);
        for (int need = 0; need <= 9; need++) {
            WashingLines x = Edge.under("court 1 1;family 20;family 20;line 0 1 9 9" + pieces, "claim 1 if family=0 and "
                + "cells>=" + need);
            e.due("needs " + need, x.few(0, 0, 0), need <= 8 ? need : -2);
            e.due("needs " + need, x.few(0, 0, 1), need <= 8 ? (1 << (need + 2)) - 4 : -2);
        }
        WashingLines x = Edge.with("court 1 1;family 20;family 20;line 0 1 9 9;linen 0 1 1;linen 0 1 1;linen 0 3 1;linen 0 4 0;"
            + "linen 1 2 1;hung 4 0");
        e.due("3 to 2: one", x.few(0, 0, 0), 1);
        e.due("3 to 2: one", x.few(0, 0, 1), 4);
        x.hang(0, 0);
        e.due("one more than alike", x.few(0, 0, 1), 4);
        x.hang(1, 0);
        e.due("3 or 1 more: the one of 3", x.few(0, 0, 1), 4);
        x.hang(2, 0);
        e.due("theirs already", x.few(0, 0, 0), 0);
        e.due("theirs already", x.few(0, 0, 1), 0);
        e.due("by none that is WET", x.few(1, 0, 0), -2);
        WashingLines least = Edge.with("court 1 1;family 20;line 0 1 9 9;linen 0 1 0;linen 0 1 1;linen 0 1 1");
        e.due("the least that is WET", least.few(0, 0, 1), 2);
        WashingLines rain = Edge.under("court 1 1;family 6;line 0 1 9 9;linen 0 1 1;rain 1 1", "claim rain*cells");
        for (int due : new int[] {-2, 1, -2}) {
            e.due("as it is now, in RAIN", rain.few(0, 0, 0), due);
            rain.hour();
        }
        WashingLines pegs = Edge.under("court 1 1;family 3;family 4;line 0 1 9 9;linen 0 1 1;linen 0 1 1;linen 1 1 1;linen 1 1 1",
            "claim 1 if cells=2");
        WashingLines theirs = Edge.under("court 1 1;family 9;family 9;line 0 1 5 9;linen 1 1 9;linen 0 1 9", "claim others");
        e.due("LINEN of theirs alone", theirs.few(0, 0, 0), -2);
        e.due("PEGS for one of two", pegs.few(0, 0, 0), -2);
        e.due("PEGS for two", pegs.few(1, 0, 1), 12);
        WashingLines length = Edge.under("court 1 1;family 9;line 0 1 4 9;line 0 1 5 9;linen 0 2 1;linen 0 3 1", "claim 1 if "
            + "cells=5");
        e.due("LENGTH for one of two", length.few(0, 0, 0), -2);
        e.due("LENGTH for two", length.few(0, 1, 1), 3);
        length.cut(1);
        e.due("CUT", length.few(0, 1, 1), -2);
    }

    @Sentence(promise = 22, words = "FEW what 0: how many, 1: the set; -2: by none. NONE without these.")
    static void fewWithoutThese(Edge e) {
        WashingLines x = Edge.under("court 1 1;family 20;line 0 1 9 9;linen 0 1 1", "claim 0", "claim 1");
        e.due("by none", x.few(0, 0, 0), -2);
        e.due("by none", x.few(0, 0, 1), -2);
        x.force(1);
        e.due("by nothing", x.few(0, 0, 0), 0);
        x.cut(0);
        e.due("CUT, by none", x.few(0, 0, 0), -2);
        e.within("LINE of six", 0, 5, -1, n -> Edge.with(FULL).few(0, n, 0));
        e.within("FAMILY of four", 0, 3, -1, n -> Edge.with(FULL).few(n, 0, 0));
        e.within("LINE of one", 0, 0, -1, n -> Edge.with("court 1 1;family 1;family 1;line 0 1 1 1").few(0, n, 0));
        e.within("FAMILY of two", 0, 1, -1, n -> Edge.with("court 1 1;family 1;family 1;line 0 1 1 1").few(n, 0, 0));
        e.within("what", 0, 1, -1, n -> Edge.with(FULL).few(0, 0, n));
        e.due("without a COURT", new WashingLines().few(0, 0, 0), -1);
    }

    // ---- promise 23

    @Sentence(promise = 23, words = "WAY from a POLE to another one: along LINES not CUT: the least LENGTH together; the "
        + "first LINE (of several ways so short that of the fewest LINES, of these the first row of LINES).")
    static void shortestWay(Edge e) {
        String chain = "court 1 1;line 1 0 9 9;line 1 2 9 9;line 3 2 9 9;line 3 4 9 9;line 5 4 9 9;line 5 6 9 9";
        WashingLines x = Edge.with(chain);
        for (int to = 1; to <= 6; to++) {
            e.due("0 to " + to, x.way(0, to, 0), 9 * to);
            e.due("0 to " + to + ", first", x.way(0, to, 1), 0);
            e.due(to + " to 0", x.way(to, 0, 0), 9 * to);
            e.due(to + " to 0, first", x.way(to, 0, 1), to - 1);
        }
        x.cut(3);
        e.due("0 to 3", x.way(0, 3, 0), 27);
        e.due("0 to 4, CUT", x.way(0, 4, 0), -2);
        e.due("0 to 4, CUT, first", x.way(0, 4, 1), -2);
        x.mend(3);
        e.due("0 to 4, MENDED", x.way(0, 4, 0), 36);
        // Five short lines, and one from end to end that is shorter, as short, longer by one.
        String five = "court 1 1;line 0 1 1 9;line 1 2 1 9;line 2 3 1 9;line 3 4 1 9;line 4 5 1 9;line 0 5 ";
        int[][] due = {{4, 4, 5}, {5, 5, 5}, {6, 5, 0}};
        for (int[] row : due) {
            WashingLines y = Edge.with(five + row[0] + " 9");
            e.due("beside one of " + row[0], y.way(0, 5, 0), row[1]);
            e.due("beside one of " + row[0] + ", first", y.way(0, 5, 1), row[2]);
        }
        // Two ways as short, of as many lines: the first row of lines.
        String two = "court 1 1;line 1 3 2 9;line 0 2 2 9;line 2 3 2 9;line 0 1 2 9";
        e.due("rows 3 0 and 1 2", Edge.with(two).way(0, 3, 1), 1);
        e.due("rows 0 3 and 2 1", Edge.with(two).way(3, 0, 1), 0);
        e.due("two LINES alike", Edge.with("court 1 1;line 4 7 2 9;line 0 7 3 9;line 7 0 3 9").way(0, 7, 1), 1);
    }

    @Sentence(promise = 23, words = "WAY what 0: LENGTH, 1: the first LINE (NONE: there already); -2: there is none. -3 "
        + "without these.")
    static void wayWithoutThese(Edge e) {
        WashingLines x = Edge.with("court 1 1;line 0 7 3 9");
        for (int pole = 0; pole < 8; pole++) {
            e.due("there already", x.way(pole, pole, 0), 0);
            e.due("there already, first", x.way(pole, pole, 1), -1);
            e.due("0 to " + pole, x.way(0, pole, 0), pole == 0 ? 0 : pole == 7 ? 3 : -2);
            e.due("0 to " + pole + ", first", x.way(0, pole, 1), pole == 0 ? -1 : pole == 7 ? 0 : -2);
            e.due(pole + " to 7", x.way(pole, 7, 0), pole == 7 ? 0 : pole == 0 ? 3 : -2);
        }
        e.within("from", 0, 7, -3, n -> x.way(n, 0, 0));
        e.within("to", 0, 7, -3, n -> x.way(0, n, 0));
        e.within("what", 0, 1, -3, n -> x.way(0, 7, n));
        e.within("what", 0, 1, -3, n -> x.way(3, 3, n));
        e.due("both beyond", x.way(8, 8, 0), -3);
        e.due("without a COURT", new WashingLines().way(0, 0, 0), -3);
        WashingLines none = Edge.with("court 1 1");
        e.due("without LINES", none.way(0, 1, 0), -2);
        e.due("without LINES, there already", none.way(0, 0, 0), 0);
    }

    // ---- promises 24 and 25

    @Sentence(promise = 24, words = "LOAD of a LINE: how WET all on it is, together, and its cells times a FORCE; BEARS of a "
        + "LINE: the greatest FORCE (0 to 99) by which LOAD is not above STRENGTH (NONE: not by 0).")
    static void bears(Edge e) {
        for (int strength = 1; strength <= 99; strength++) {
            WashingLines x = Edge.with("court 1 1;family 20;family 20;line 0 1 9 " + strength + ";linen 0 2 7;linen 1 1 3;"
                + "hung 0 0;hung 1 0");
            e.due("10 WET, 3 cells, STRENGTH " + strength, x.bears(0), strength < 10 ? -1 : (strength - 10) / 3);
            WashingLines y = Edge.with("court 1 1;family 20;line 0 1 9 " + strength + ";linen 0 1 0;hung 0 0");
            e.due("dry, 1 cell, STRENGTH " + strength, y.bears(0), strength);
        }
        WashingLines x = Edge.with("court 1 1;family 20;line 0 1 9 1;line 0 1 9 99;linen 0 1 0;hung 0 1");
        e.due("nothing on it", x.bears(0), 99);
        e.due("99", x.bears(1), 99);
        x.cut(1);
        e.due("CUT", x.bears(1), 99);
    }

    @Sentence(promise = 24, words = "BEARS; -2 without a LINE.")
    static void bearsWithoutALine(Edge e) {
        e.within("LINE of six", 0, 5, -2, n -> Edge.with(FULL).bears(n));
        e.within("LINE of one", 0, 0, -2, n -> Edge.with("court 1 1;line 0 1 1 1").bears(n));
        e.due("without a COURT", new WashingLines().bears(0), -2);
        e.due("without LINES", Edge.with("court 1 1").bears(0), -2);
    }

    @Sentence(promise = 25, words = "STORM of a FORCE: LINES not CUT that do not bear it, as bits.")
    static void storm(Edge e) {
        // Line 0 bears nothing, line 1 bears 0, line 2 bears 1, line 3 bears 98, line 4 bears 99, line 5 is empty.
        String court = "court 1 1;family 20;line 0 1 9 4;line 0 1 9 4;line 0 1 9 5;line 0 1 9 98;line 0 1 9 99;line 0 1 9 1;"
            + "linen 0 1 5;linen 0 1 4;linen 0 1 4;linen 0 1 0;linen 0 1 0;hung 0 0;hung 1 1;hung 2 2;hung 3 3;hung 4 4";
        WashingLines x = Edge.with(court);
        for (int force = 0; force <= 99; force++) {
            int due = 1 + (force >= 1 ? 2 : 0) + (force >= 2 ? 4 : 0) + (force >= 99 ? 8 : 0);
            e.due("FORCE " + force, x.storm(force), due);
        }
        x.cut(0);
        x.cut(3);
        e.due("FORCE 99, two are CUT", x.storm(99), 6);
        WashingLines all = Edge.with(FULL.replace("9 99", "9 1") + ";hung 0 0;hung 1 1;hung 2 2;hung 3 3;hung 4 4;hung 5 5");
        e.due("all", all.storm(0), 63);
        e.due("none", Edge.with(FULL).storm(99), 0);
    }

    @Sentence(promise = 25, words = "STORM (FORCE 0 to 99); NONE without these, or a COURT.")
    static void stormWithoutThese(Edge e) {
        e.within("FORCE", 0, 99, -1, n -> Edge.with(FULL).storm(n));
        e.within("FORCE without LINES", 0, 99, -1, n -> Edge.with("court 1 1").storm(n));
        e.due("without LINES", Edge.with("court 1 1").storm(0), 0);
        e.due("without a COURT", new WashingLines().storm(0), -1);
        e.due("without a COURT", new WashingLines().storm(99), -1);
    }

    // ---- promise 26

    @Sentence(promise = 26, words = "WORTH of a LINEN that hangs for n HOURS (1 to 60): by how much more AIR its FAMILY has "
        + "then, than if it was TAKEN now.")
    static void worth(Edge e) {
        String court = "court 1 20;family 9;family 9;line 0 1 7 9;linen 0 1 20;linen 0 1 20;linen 1 1 20;hung 0 0;rain 19 99";
        for (int n = 1; n <= 60; n++) {
            e.due("alone, for " + n, Edge.with(court).worth(0, n), 7 * n);
        }
        e.within("n", 1, 60, -100000, n -> Edge.with(court).worth(0, n));
        e.due("beside another one", Edge.with(court + ";hung 1 0").worth(0, 60), 0);
        e.due("it makes it more than theirs", Edge.with(court + ";hung 1 0;hung 2 0").worth(0, 60), 420);
        e.due("alike, for the other one", Edge.with(court + ";hung 2 0").worth(2, 60), 0);
        WashingLines below = Edge.under(court, "claim 1 if pegs>8;claim 1 if family=1 and cells=0");
        e.due("PEGS are worth more", below.worth(0, 1), 0);
        below = Edge.under(court, "claim pegs/9*2 if family=0;claim 1");
        e.due("below 0", below.worth(0, 60), -420);
    }

    @Sentence(promise = 26, words = "WORTH; -100000 without these.")
    static void worthWithoutThese(Edge e) {
        WashingLines x = Edge.with(FULL + ";hung 0 0;hung 9 5");
        e.due("what does not hang", x.worth(1, 1), -100000);
        e.due("what hangs", x.worth(0, 1), 9);
        e.due("the last", x.worth(9, 1), 9);
        x.take(0);
        e.due("what was taken", x.worth(0, 1), -100000);
        e.within("LINEN", 9, 9, -100000, n -> x.worth(n, 1));
        e.due("LINEN -1", x.worth(-1, 1), -100000);
        WashingLines one = Edge.with("court 1 1;family 9;line 0 1 7 9;linen 0 1 20;hung 0 0");
        e.within("LINEN of one", 0, 0, -100000, n -> one.worth(n, 1));
        e.due("without a COURT", new WashingLines().worth(0, 1), -100000);
    }
}
