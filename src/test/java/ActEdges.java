import java.util.function.Supplier;
import java.util.function.ToIntFunction;

/** The boundaries of promises 7 to 16: what is told of a court, the hours and the hands, what is undone. */
final class ActEdges {
    private static final int[] FAR_OFF = {-1, -2, 99, Integer.MIN_VALUE, Integer.MAX_VALUE};

    private ActEdges() {
    }

    private static void hours(WashingLines x, int n) {
        for (int i = 0; i < n; i++) {
            x.hour();
        }
    }

    // ---- promises 7 to 9

    @Sentence(promise = 7, words = "Of a FAMILY what 0: PEGS left, 1: AIR, 2: LINES that are theirs now, as bits, 3: LINEN of "
        + "theirs, as bits.")
    static void family(Edge e) {
        WashingLines x = Edge.under(CourtEdges.FULL, "claim 1-family", "claim 0", "claim 1 if family=3 and line=5");
        e.due("all LINES", x.family(0, 2), 63);
        e.due("no LINES", x.family(1, 2), 0);
        e.due("LINEN", x.family(0, 3), 1 + 16 + 256);
        e.due("LINEN", x.family(3, 3), 8 + 128);
        e.due("PEGS", x.family(3, 0), 20);
        x.hang(7, 5);
        e.due("PEGS left", x.family(3, 0), 18);
        e.due("no AIR yet", x.family(0, 1), 0);
        x.hour();
        e.due("AIR", x.family(0, 1), 54);
        x.force(1);
        e.due("nobody's", x.family(0, 2), 0);
        x.force(2);
        e.due("LINE 5 alone", x.family(3, 2), 32);
        WashingLines y = Edge.with("court 1 1;family 0;family 20" + ";linen 0 1 0".repeat(10));
        e.due("no PEGS", y.family(0, 0), 0);
        e.due("all LINEN", y.family(0, 3), 1023);
        e.due("no LINEN", y.family(1, 3), 0);
        e.due("no LINES at all", y.family(0, 2), 0);
        WashingLines now = Edge.under("court 1 1;family 1;line 0 1 1 9;line 0 1 2 9;rain 1 1", "claim rain+held");
        for (int due : new int[] {0, 3, 3}) {
            e.due("LINES that are theirs now", now.family(0, 2), due);
            now.hour();
        }
    }

    @Sentence(promise = 7, words = "NONE without these.")
    static void familyWithoutThese(Edge e) {
        WashingLines x = Edge.with("court 1 1;family 3");
        for (int what = 0; what < 4; what++) {
            int w = what;
            e.due("FAMILY 0, " + what, x.family(0, what) >= 0, true);
            e.due("FAMILY 1, " + what, x.family(1, what), -1);
            for (int far : FAR_OFF) {
                e.due("FAMILY " + far + ", " + w, x.family(far, w), -1);
            }
        }
        for (int what : new int[] {-1, 4, 5, Integer.MIN_VALUE, Integer.MAX_VALUE}) {
            e.due("what " + what, x.family(0, what), -1);
        }
        e.within("FAMILY of four", 0, 3, -1, f -> Edge.with(CourtEdges.FULL).family(f, 0));
        e.due("without a COURT", new WashingLines().family(0, 0), -1);
        e.due("without FAMILIES", Edge.with("court 1 1").family(0, 0), -1);
    }

    @Sentence(promise = 8, words = "Of a LINE what 0, 1: the POLES, 2: LENGTH, 3: STRENGTH, 4: LENGTH left, 5: LINEN on it, "
        + "as bits, 6: whose it is now (NONE), 7: who HELD it last (NONE), 8: 1 if CUT, else 0.")
    static void line(Edge e) {
        WashingLines x = Edge.with("court 1 9;family 20;family 20;line 7 0 9 99;line 0 7 1 1" + ";linen 1 1 1".repeat(10)
            + ";hung 0 1;hung 9 0");
        int[][] due = {{7, 0, 9, 99, 8, 512, 1, -1, 0}, {0, 7, 1, 1, 0, 1, 1, -1, 0}};
        for (int line = 0; line < 2; line++) {
            for (int what = 0; what < 9; what++) {
                e.due("line(" + line + ", " + what + ")", x.line(line, what), due[line][what]);
            }
        }
        x.hour();
        e.due("nobody's, dry", x.line(0, 6), -1);
        e.due("HELD", x.line(0, 7), 1);
        for (int linen = 1; linen < 9; linen++) {
            e.due("hang", x.hang(linen, 0), 8 - linen);
            e.due("LENGTH left", x.line(0, 4), 8 - linen);
        }
        e.due("LINEN on it", x.line(0, 5), 1022);
        x.hour();
        e.due("HELD", x.line(0, 7), 1);
        x.hour();
        e.due("HELD by nobody", x.line(0, 7), -1);
        x.cut(0);
        e.due("CUT", x.line(0, 8), 1);
        e.due("not CUT", x.line(1, 8), 0);
        e.due("LENGTH left", x.line(0, 4), 9);
        e.due("LINEN on it", x.line(0, 5), 0);
    }

    @Sentence(promise = 8, words = "-2 without these.")
    static void lineWithoutThese(Edge e) {
        WashingLines x = Edge.with("court 1 1;line 0 1 2 3");
        for (int what = 0; what < 9; what++) {
            e.due("LINE 0, " + what, x.line(0, what) >= -1, true);
            e.due("LINE 1, " + what, x.line(1, what), -2);
            for (int far : FAR_OFF) {
                e.due("LINE " + far + ", " + what, x.line(far, what), -2);
            }
        }
        for (int what : new int[] {-1, 9, 10, Integer.MIN_VALUE, Integer.MAX_VALUE}) {
            e.due("what " + what, x.line(0, what), -2);
        }
        e.within("LINE of six", 0, 5, -2, n -> Edge.with(CourtEdges.FULL).line(n, 7));
        e.due("without a COURT", new WashingLines().line(0, 0), -2);
        e.due("without LINES", Edge.with("court 1 1").line(0, 0), -2);
    }

    @Sentence(promise = 9, words = "Of a LINEN what 0: FAMILY, 1: LENGTH, 2: how WET, 3: the LINE (NONE).")
    static void linen(Edge e) {
        WashingLines x = Edge.with("court 1 1;family 20;family 20;family 20;family 20;line 0 1 9 9;line 0 1 9 9;line 0 1 9 9;"
            + "line 0 1 9 9;line 0 1 9 9;line 0 1 9 9;linen 3 4 20;linen 0 1 0;linen 0 1 0;hung 0 5;hung 1 0");
        int[][] due = {{3, 4, 20, 5}, {0, 1, 0, 0}, {0, 1, 0, -1}};
        for (int linen = 0; linen < 3; linen++) {
            for (int what = 0; what < 4; what++) {
                e.due("linen(" + linen + ", " + what + ")", x.linen(linen, what), due[linen][what]);
            }
        }
    }

    @Sentence(promise = 9, words = "-2 without these.")
    static void linenWithoutThese(Edge e) {
        WashingLines x = Edge.with("court 1 1;family 1;linen 0 1 1");
        for (int what = 0; what < 4; what++) {
            e.due("LINEN 0, " + what, x.linen(0, what) >= -1, true);
            e.due("LINEN 1, " + what, x.linen(1, what), -2);
            for (int far : FAR_OFF) {
                e.due("LINEN " + far + ", " + what, x.linen(far, what), -2);
            }
        }
        for (int what : new int[] {-1, 4, 5, Integer.MIN_VALUE, Integer.MAX_VALUE}) {
            e.due("what " + what, x.linen(0, what), -2);
        }
        e.within("LINEN of ten", 0, 9, -2, n -> Edge.with(CourtEdges.FULL).linen(n, 3));
        e.due("without a COURT", new WashingLines().linen(0, 0), -2);
        e.due("without LINEN", Edge.with("court 1 1").linen(0, 0), -2);
    }

    // ---- promise 10

    @Sentence(promise = 10, words = "An HOUR: how much AIR was got in it")
    static void airGot(Edge e) {
        e.due("without LINES", Edge.with("court 1 1;family 1").hour(), 0);
        e.due("nobody's", Edge.with("court 1 1;family 1;line 0 1 9 9").hour(), 0);
        e.due("the shortest LINE", Edge.under("court 1 1;family 1;line 0 1 1 9", "claim 1").hour(), 1);
        e.due("all LINES", Edge.under(CourtEdges.FULL, "claim 1 if family=0").hour(), 54);
        WashingLines x = Edge.under(CourtEdges.FULL, "claim 1 if family=line/2");
        e.due("of several FAMILIES", x.hour(), 54);
        e.due("a second time", x.hour(), 54);
        e.due("AIR", x.family(0, 1), 36);
        e.due("AIR", x.family(3, 1), 0);
    }

    @Sentence(promise = 10, words = "NONE, and nothing happens, without a COURT, or at HOUR 999.")
    static void noHour(Edge e) {
        e.refused("without a COURT", WashingLines::new, x -> x.hour(), -1);
        e.due("with the least COURT", Edge.with("court 1 1").hour(), 0);
        // HOUR 999 lies behind 512 calls, where the answers are free; it is kept all the same.
        Supplier<WashingLines> late = () -> {
            WashingLines x = Edge.under("court 1 1;family 1;line 0 1 1 9", "claim 1");
            for (int hour = 0; hour < 999; hour++) {
                e.due("at HOUR " + hour, x.hour(), 1);
            }
            return x;
        };
        e.due("HOUR", late.get().count(7), 999);
        e.refused("at HOUR 999", late, x -> x.hour(), -1);
    }

    @Sentence(promise = 10, words = "(1) each LINE, as all is at its begin: who HOLDS it (this is who HELD it last, or "
        + "nobody); they have its LENGTH of AIR more.")
    static void asAllIsAtTheBegin(Edge e) {
        String court = "court 1 1;family 9;family 9;line 0 1 5 9;line 0 1 3 9";
        WashingLines byAir = Edge.under(court, "claim 1 if family=0 and air=0;claim 1 if family=1 and line=1 and air=0");
        e.due("both are held by the AIR of the begin", byAir.hour(), 5);
        e.due("LINE 0", byAir.line(0, 7), 0);
        e.due("LINE 1, alike", byAir.line(1, 7), -1);
        e.due("AIR", byAir.family(0, 1), 5);
        e.due("then 0 has AIR", byAir.hour(), 3);
        e.due("LINE 0 then, nobody", byAir.line(0, 7), -1);
        e.due("LINE 1 then", byAir.line(1, 7), 1);
        WashingLines byWet = Edge.with("court 1 9;family 9;line 0 1 5 9;linen 0 1 1;hung 0 0;rain 1 1");
        e.due("WET at the begin", byWet.hour(), 5);
        e.due("dry at the begin of RAIN", byWet.hour(), 0);
        e.due("WET behind the RAIN", byWet.hour(), 5);
        WashingLines byHour = Edge.under(court, "claim 1 if hour=1 and family=1");
        e.due("HOUR 0", byHour.hour(), 0);
        e.due("HOUR 1", byHour.hour(), 8);
        e.due("HELD", byHour.line(0, 7), 1);
        e.due("HOUR 2", byHour.hour(), 0);
        e.due("HELD by nobody", byHour.line(0, 7), -1);
        WashingLines byHeld = Edge.under(court, "claim 2 if hour=0 and family=line;claim held");
        e.due("by hour", byHeld.hour(), 8);
        e.due("by held", byHeld.hour(), 8);
        e.due("LINE 1", byHeld.line(1, 7), 1);
    }

    @Sentence(promise = 10, words = "(2) In RAIN what hangs is as WET as SOAK, if it was less; else SUN less WET, 0 at least.")
    static void wetter(Edge e) {
        for (int wet = 0; wet <= 20; wet++) {
            String court = "court 3 7;family 9;line 0 1 5 9;linen 0 1 " + wet + ";linen 0 1 " + wet + ";hung 0 0";
            WashingLines sun = Edge.with(court);
            sun.hour();
            e.due("in the sun", sun.linen(0, 2), Math.max(0, wet - 3));
            e.due("what does not hang", sun.linen(1, 2), wet);
            WashingLines rain = Edge.with(court + ";rain 0 0");
            rain.hour();
            e.due("in RAIN", rain.linen(0, 2), Math.max(7, wet));
            e.due("what does not hang", rain.linen(1, 2), wet);
            rain.hour();
            e.due("behind RAIN", rain.linen(0, 2), Math.max(7, wet) - 3);
        }
        for (int sun = 1; sun <= 5; sun++) {
            WashingLines x = Edge.with("court " + sun + " 1;family 9;line 0 1 5 9;linen 0 1 5;hung 0 0");
            x.hour();
            e.due("SUN " + sun, x.linen(0, 2), 5 - sun);
            x.hour();
            e.due("SUN " + sun, x.linen(0, 2), Math.max(0, 5 - 2 * sun));
        }
        for (int soak = 1; soak <= 20; soak += 19) {
            WashingLines x = Edge.with("court 1 " + soak + ";family 9;line 0 1 5 9;linen 0 1 0;hung 0 0;rain 0 0");
            x.hour();
            e.due("SOAK " + soak, x.linen(0, 2), soak);
        }
    }

    @Sentence(promise = 10, words = "rain NUMBER NUMBER (the first, the last HOUR, 0 to 99, not below the first)")
    static void whenItRains(Edge e) {
        int[][] rains = {{0, 0}, {2, 4}, {3, 3}, {99, 99}, {0, 99}};
        for (int[] rain : rains) {
            WashingLines x = Edge.with("court 5 1;family 9;line 0 1 5 9;linen 0 1 0;hung 0 0;rain " + rain[0] + " " + rain[1]);
            for (int hour = 0; hour <= 101; hour++) {
                boolean rains1 = hour >= rain[0] && hour <= rain[1];
                e.due("RAIN at HOUR " + hour, x.count(10), rains1 ? 1 : 0);
                x.hour();
                e.due("WET behind HOUR " + hour, x.linen(0, 2), rains1 ? 1 : 0);
            }
        }
        WashingLines x = Edge.with("court 1 1;rain 1 2;rain 4 5;rain 2 2");
        for (int due : new int[] {0, 1, 1, 0, 1, 1, 0}) {
            e.due("of three RAINS", x.count(10), due);
            x.hour();
        }
    }

    @Sentence(promise = 10, words = "(3) HOUR is 1 more (999 at most).")
    static void oneMore(Edge e) {
        WashingLines x = Edge.with("court 1 1");
        for (int hour = 0; hour < 200; hour++) {
            e.due("HOUR", x.count(7), hour);
            e.due("hour()", x.hour(), 0);
        }
        WashingLines y = Edge.with("court 1 1");
        hours(y, 500);
        e.due("HOUR", y.count(7), 500);
    }

    // ---- promise 11

    @Sentence(promise = 11, words = "HANG (a LINEN that does not hang, on a LINE that is not CUT and has so much LENGTH left; "
        + "its FAMILY has 2 PEGS, and has them no more)")
    static void hangs(Edge e) {
        for (int length = 1; length <= 9; length++) {
            for (int piece = 1; piece <= 4; piece++) {
                String court = "court 1 1;family 9;line 0 1 " + length + " 9;linen 0 " + piece + " 0;linen 0 1 0";
                if (piece > length) {
                    e.refused("too long", () -> Edge.with(court), x -> x.hang(0, 0), -1);
                } else {
                    WashingLines x = Edge.with(court);
                    e.due("hang(0, 0)", x.hang(0, 0), length - piece);
                    e.due("a second one", x.hang(1, 0), length > piece ? length - piece - 1 : -1);
                }
            }
        }
        for (int pegs = 0; pegs <= 5; pegs++) {
            String court = "court 1 1;family 20;family " + pegs + ";line 0 1 9 9;linen 1 1 0;linen 1 1 0;linen 0 1 0";
            if (pegs < 2) {
                e.refused("without PEGS", () -> Edge.with(court), x -> x.hang(0, 0), -1);
                continue;
            }
            WashingLines x = Edge.with(court);
            e.due("with PEGS", x.hang(0, 0), 8);
            e.due("PEGS left", x.family(1, 0), pegs - 2);
            e.due("a second one", x.hang(1, 0), pegs >= 4 ? 7 : -1);
            e.due("PEGS left", x.family(1, 0), pegs >= 4 ? pegs - 4 : pegs - 2);
            e.due("PEGS of others", x.family(0, 0), 20);
        }
        Supplier<WashingLines> hung = () -> Edge.with("court 1 1;family 9;line 0 1 9 9;line 0 1 9 9;linen 0 1 0;hung 0 0");
        e.refused("where it hangs", hung, x -> x.hang(0, 0), -1);
        e.refused("what hangs elsewhere", hung, x -> x.hang(0, 1), -1);
        Supplier<WashingLines> cut = () -> {
            WashingLines x = Edge.with("court 1 1;family 9;line 0 1 9 9;line 0 1 9 9;linen 0 1 0");
            x.cut(1);
            return x;
        };
        e.refused("on a LINE that is CUT", cut, x -> x.hang(0, 1), -1);
        e.due("on the other LINE", cut.get().hang(0, 0), 8);
        WashingLines mended = cut.get();
        mended.mend(1);
        e.due("on a LINE that is MENDED", mended.hang(0, 1), 8);
    }

    @Sentence(promise = 11, words = "HANG: LENGTH left then; NONE, and nothing happens, without these.")
    static void hangWithoutThese(Edge e) {
        WashingLines x = Edge.with("court 1 1;family 9;line 0 1 9 9;linen 0 1 0");
        for (int far : new int[] {1, 2, -1, -2, 99, Integer.MIN_VALUE, Integer.MAX_VALUE}) {
            e.due("LINEN " + far, x.hang(far, 0), -1);
            e.due("LINE " + far, x.hang(0, far), -1);
            e.due("both " + far, x.hang(far, far), -1);
        }
        e.due("no ACT", x.count(12), 0);
        e.due("hang(0, 0)", x.hang(0, 0), 8);
        e.due("one ACT", x.count(12), 1);
        e.within("LINEN of ten", 0, 9, -1, n -> Edge.with(CourtEdges.FULL).hang(n, 0));
        e.within("LINE of six", 0, 5, -1, n -> Edge.with(CourtEdges.FULL).hang(0, n));
        e.due("without a COURT", new WashingLines().hang(0, 0), -1);
        e.due("to the end", Edge.with("court 1 1;family 2;line 0 1 4 9;linen 0 4 0").hang(0, 0), 0);
    }

    // ---- promises 12 to 15

    @Sentence(promise = 12, words = "TAKE: the LINE; NONE, and nothing happens, without a LINEN that hangs.")
    static void takes(Edge e) {
        Supplier<WashingLines> two = () -> Edge.with(CourtEdges.FULL + ";hung 0 0;hung 9 5");
        e.refused("what does not hang", two, x -> x.take(1), -1);
        WashingLines x = two.get();
        e.due("take(9)", x.take(9), 5);
        e.due("PEGS, 2 more", x.family(1, 0), 20);
        e.due("its LINE", x.linen(9, 3), -1);
        e.due("LENGTH left", x.line(5, 4), 9);
        e.due("what was taken", x.take(9), -1);
        e.due("one ACT", x.count(12), 1);
        e.due("take(0)", x.take(0), 0);
        Supplier<WashingLines> one = () -> Edge.with("court 1 1;family 2;line 0 1 9 9;linen 0 1 0;hung 0 0");
        for (int far : new int[] {1, 2, -1, -2, 10, Integer.MIN_VALUE, Integer.MAX_VALUE}) {
            e.refused("LINEN " + far, one, y -> y.take(far), -1);
        }
        WashingLines y = one.get();
        e.due("no PEGS", y.family(0, 0), 0);
        e.due("take(0)", y.take(0), 0);
        e.due("PEGS", y.family(0, 0), 2);
        e.within("LINEN of ten", 0, 9, -1, n -> two.get().take(n));
        e.due("without a COURT", new WashingLines().take(0), -1);
    }

    @Sentence(promise = 12, words = "TAKE (a LINEN that hangs comes down: 2 PEGS more)")
    static void comesDown(Edge e) {
        WashingLines x = Edge.with("court 1 1;family 20;family 5;line 0 1 9 9;linen 1 4 0;linen 1 1 3;linen 0 1 0;hung 0 0;"
            + "hung 1 0;hung 2 0");
        int[] pegs = {1, 3, 5};
        for (int linen = 0; linen < 2; linen++) {
            e.due("PEGS", x.family(1, 0), pegs[linen]);
            e.due("take", x.take(linen), 0);
            e.due("PEGS, 2 more", x.family(1, 0), pegs[linen + 1]);
            e.due("it is down", x.linen(linen, 3), -1);
            e.due("WET as it was", x.linen(linen, 2), 3 * linen);
        }
        e.due("LENGTH left", x.line(0, 4), 8);
        e.due("PEGS of others", x.family(0, 0), 18);
        e.due("it can be HUNG again", x.hang(0, 0), 4);
    }

    @Sentence(promise = 13, words = "WASH (a LINEN that does not hang is as WET as it was told, if it is not)")
    static void washes(Edge e) {
        String court = "court 1 5;family 9;line 0 1 9 9;linen 0 1 1;linen 0 1 0;linen 0 1 20;linen 0 1 5";
        Supplier<WashingLines> hung = () -> Edge.with(court + ";hung 0 0;hung 1 0;hung 2 0;hung 3 0");
        for (int linen = 0; linen < 4; linen++) {
            int n = linen;
            e.refused("what hangs", hung, x -> x.wash(n), -1);
        }
        WashingLines x = hung.get();
        x.hour();
        x.take(0);
        x.take(1);
        x.take(2);
        e.due("one less WET than told", x.wash(0), 1);
        e.due("as WET as it was told", x.linen(0, 2), 1);
        e.due("as it was told", x.wash(0), -1);
        e.due("as it was told, dry", x.wash(1), -1);
        e.due("ACTS", x.count(12), 5);
        e.due("one less WET than 20", x.wash(2), 20);
        e.due("what hangs, WET otherwise", x.wash(3), -1);
        WashingLines y = Edge.with(court + ";hung 0 0;hung 1 0;hung 2 0;hung 3 0;rain 0 0");
        y.hour();
        for (int linen = 0; linen < 4; linen++) {
            y.take(linen);
        }
        e.due("WETTER than told", y.wash(0), 1);
        e.due("WETTER than told", y.wash(1), 0);
        e.due("WET as told", y.wash(2), -1);
        e.due("WET as told", y.wash(3), -1);
        e.due("dry again", y.linen(1, 2), 0);
    }

    @Sentence(promise = 13, words = "WASH: how WET then; NONE, and nothing happens, without these.")
    static void washWithoutThese(Edge e) {
        Supplier<WashingLines> worn = () -> {
            WashingLines x = Edge.with("court 1 1;family 9;line 0 1 9 9;linen 0 1 9;linen 0 1 3;hung 0 0");
            x.hour();
            x.take(0);
            return x;
        };
        for (int far : new int[] {1, 2, 3, -1, -2, 10, Integer.MIN_VALUE, Integer.MAX_VALUE}) {
            e.refused("LINEN " + far, worn, x -> x.wash(far), -1);
        }
        WashingLines x = worn.get();
        e.due("wash(0)", x.wash(0), 9);
        e.due("wash(0) again", x.wash(0), -1);
        WashingLines y = Edge.with("court 1 1;family 20;line 0 1 9 9" + ";linen 0 1 9".repeat(10) + ";hung 9 0");
        y.hour();
        y.take(9);
        e.due("the last LINEN", y.wash(9), 9);
        e.due("one behind it", y.wash(10), -1);
        e.due("without a COURT", new WashingLines().wash(0), -1);
    }

    @Sentence(promise = 14, words = "CUT (a LINE: all LINEN on it comes down, PEGS too; nobody HELD it last)")
    static void cuts(Edge e) {
        for (int pieces = 0; pieces <= 9; pieces++) {
            StringBuilder court = new StringBuilder("court 1 1;family 20;family 4;line 0 1 9 9;line 0 1 9 9"
                + ";linen 0 1 9".repeat(8) + ";linen 1 1 0;linen 1 1 0;hung 9 1");
            for (int linen = 0; linen < pieces; linen++) {
                court.append(";hung ").append(linen).append(" 0");
            }
            WashingLines x = Edge.with(court.toString());
            x.hour();
            e.due("HELD", x.line(0, 7), pieces > 0 ? 0 : -1);
            e.due("cut(0)", x.cut(0), pieces);
            e.due("CUT", x.line(0, 8), 1);
            e.due("LINEN on it", x.line(0, 5), 0);
            e.due("LENGTH left", x.line(0, 4), 9);
            e.due("PEGS", x.family(0, 0), 20);
            e.due("PEGS", x.family(1, 0), 2);
            e.due("nobody HELD it", x.line(0, 7), -1);
            e.due("LINEN that hangs", x.count(8), 512);
            e.due("WET stays", x.linen(0, 2), pieces > 0 ? 8 : 9);
        }
    }

    @Sentence(promise = 14, words = "CUT: how many came down; NONE, and nothing happens, without a LINE that is not CUT.")
    static void cutWithoutThese(Edge e) {
        Supplier<WashingLines> whole = () -> Edge.with("court 1 1;family 9;line 0 1 9 9;line 0 1 9 9;linen 0 1 9;hung 0 1");
        for (int far : new int[] {2, 3, -1, -2, Integer.MIN_VALUE, Integer.MAX_VALUE}) {
            e.refused("LINE " + far, whole, x -> x.cut(far), -1);
        }
        e.refused("a LINE that is CUT", () -> {
            WashingLines x = whole.get();
            x.cut(1);
            return x;
        }, x -> x.cut(1), -1);
        WashingLines x = whole.get();
        e.due("an empty LINE", x.cut(0), 0);
        e.due("a LINE that is CUT", x.cut(0), -1);
        e.due("the other one", x.cut(1), 1);
        x.mend(0);
        e.due("a LINE that is MENDED", x.cut(0), 0);
        e.within("LINE of six", 0, 5, -1, n -> Edge.with(CourtEdges.FULL).cut(n));
        e.due("without a COURT", new WashingLines().cut(0), -1);
    }

    @Sentence(promise = 15, words = "MEND (a LINE that is CUT is not)")
    static void isNotCut(Edge e) {
        for (int line = 0; line < 6; line++) {
            WashingLines x = Edge.under(CourtEdges.FULL, "claim 1 if family=0");
            x.cut(line);
            e.due("CUT", x.count(9), 1 << line);
            e.due("LINES of FAMILY 0", x.family(0, 2), 63 - (1 << line));
            e.due("mend", x.mend(line), true);
            e.due("none is CUT", x.count(9), 0);
            e.due("LINES of FAMILY 0", x.family(0, 2), 63);
            e.due("it can be HUNG on", x.hang(0, line), 8);
        }
    }

    @Sentence(promise = 15, words = "MEND: true; false, and nothing happens, without a LINE that is CUT.")
    static void mends(Edge e) {
        Supplier<WashingLines> whole = () -> Edge.with("court 1 1;family 9;line 0 1 9 9;line 0 1 9 9;linen 0 1 9;hung 0 0");
        for (int line : new int[] {0, 1, 2, 3, -1, -2, Integer.MIN_VALUE, Integer.MAX_VALUE}) {
            e.refused("LINE " + line, whole, x -> x.mend(line) ? 1 : 0, 0);
        }
        WashingLines x = whole.get();
        x.hour();
        x.cut(0);
        e.due("mend(1)", x.mend(1), false);
        e.due("mend(0)", x.mend(0), true);
        e.due("CUT", x.line(0, 8), 0);
        e.due("what came down stays down", x.line(0, 5), 0);
        e.due("nobody HELD it", x.line(0, 7), -1);
        e.due("again", x.mend(0), false);
        e.due("ACTS", x.count(12), 3);
        WashingLines y = Edge.with(CourtEdges.FULL);
        y.cut(0);
        y.cut(5);
        e.due("mend(6)", y.mend(6), false);
        e.due("mend(5)", y.mend(5), true);
        e.due("mend(-1)", y.mend(-1), false);
        e.due("mend(0)", y.mend(0), true);
        e.due("without a COURT", new WashingLines().mend(0), false);
    }

    // ---- promise 16

    @Sentence(promise = 16, words = "The last 20 ACTS can be UNDONE, the last first.")
    static void twentyActs(Edge e) {
        for (int acts = 18; acts <= 42; acts++) {
            WashingLines x = Edge.with("court 1 1;family 9;line 0 1 9 9;linen 0 1 9");
            hours(x, acts);
            int can = Math.min(acts, 20);
            e.due("ACTS that can be UNDONE", x.count(12), can);
            for (int left = can - 1; left >= 0; left--) {
                e.due("undo()", x.undo(), left);
                e.due("HOUR", x.count(7), acts - (can - left));
            }
            e.due("undo() of none", x.undo(), -2);
            e.due("HOUR", x.count(7), acts - can);
        }
        WashingLines x = Edge.with("court 1 1;family 9;line 0 1 9 9;linen 0 1 9");
        hours(x, 25);
        for (int i = 0; i < 5; i++) {
            x.undo();
        }
        e.due("fifteen are left", x.count(12), 15);
        hours(x, 4);
        e.due("four more", x.count(12), 19);
        hours(x, 2);
        e.due("twenty again", x.count(12), 20);
        e.due("HOUR", x.count(7), 26);
        for (int left = 19; left >= 0; left--) {
            e.due("undo()", x.undo(), left);
        }
        e.due("HOUR", x.count(7), 6);
    }

    @Sentence(promise = 16, words = "ACTS: an HOUR")
    static void eachActIsUndone(Edge e) {
        String court = "court 1 1;family 9;line 0 1 9 9;line 0 1 9 9;linen 0 1 9;linen 0 1 3;linen 0 1 3;hung 0 0;hung 1 0";
        act(e, court, "hour", x -> x.hour());
        act(e, court, "hang", x -> x.hang(2, 1));
        act(e, court, "take", x -> x.take(0));
        act(e, court, "wash", x -> x.wash(1));
        act(e, court, "cut", x -> x.cut(0));
        act(e, court, "mend", x -> x.mend(1) ? 1 : 0);
    }

    /** Hands have been there already: an hour is past, linen 1 is down and drier than told, line 1 is cut but for hang. */
    private static void act(Edge e, String court, String name, ToIntFunction<WashingLines> act) {
        WashingLines x = Edge.with(court);
        x.hour();
        x.take(1);
        if (!name.equals("hang")) {
            x.cut(1);
        }
        int acts = x.count(12);
        String before = Edge.all(x);
        e.due(name + " is done", act.applyAsInt(x) >= 0, true);
        e.due(name + " is one ACT", x.count(12), acts + 1);
        e.due(name + " changes something", Edge.all(x).equals(before), false);
        e.due(name + " is UNDONE", x.undo(), acts);
        e.same(name + " is UNDONE", Edge.all(x), before);
    }

    @Sentence(promise = 16, words = "The last ACT is UNDONE: how many more can be; -2, and nothing happens: none can.")
    static void noneCan(Edge e) {
        String court = "court 1 1;family 9;line 0 1 9 9;linen 0 1 9";
        e.refused("without a COURT", WashingLines::new, x -> x.undo(), -2);
        e.refused("without an ACT", () -> Edge.with(court), x -> x.undo(), -2);
        e.refused("when all are UNDONE", () -> {
            WashingLines x = Edge.with(court);
            x.hang(0, 0);
            x.undo();
            return x;
        }, x -> x.undo(), -2);
        e.refused("of what is no ACT", () -> {
            WashingLines x = Edge.under(court, "claim 1");
            x.seed(3);
            x.log(0, 0, 0);
            x.image(0);
            x.hang(0, 1);
            x.ahead(0, 9, 0);
            return x;
        }, x -> x.undo(), -2);
        e.refused("of an ACT in the COURT ahead of this", () -> {
            WashingLines x = Edge.with(court);
            x.hour();
            Edge.court(x, court);
            return x;
        }, x -> x.undo(), -2);
        WashingLines x = Edge.with(court);
        x.hang(0, 0);
        e.due("of one ACT", x.undo(), 0);
        x.hang(0, 0);
        x.cut(0);
        e.due("of two ACTS", x.undo(), 1);
        e.due("the CUT is UNDONE", x.linen(0, 3), 0);
        e.due("of the first", x.undo(), 0);
        e.due("the HANGING is UNDONE", x.linen(0, 3), -1);
        e.due("of no more", x.undo(), -2);
    }
}
