/** The boundaries of promises 1 to 4: a new object, the tape, the court. */
final class CourtEdges {
    static final String FULL = "court 1 9;family 20;family 20;family 20;family 20;line 0 1 9 99;line 1 2 9 99;line 2 3 9 99;"
        + "line 3 4 9 99;line 4 5 9 99;line 5 6 9 99;linen 0 1 9;linen 1 1 9;linen 2 1 9;linen 3 1 9;linen 0 1 9;linen 1 1 9;"
        + "linen 2 1 9;linen 3 1 9;linen 0 1 9;linen 1 1 9";

    private CourtEdges() {
    }

    // ---- promise 1

    @Sentence(promise = 1, words = "No COURT, no RULES, none IN FORCE.")
    static void nothingThere(Edge e) {
        WashingLines x = new WashingLines();
        for (int what = 0; what < 15; what++) {
            e.due("count(" + what + ")", x.count(what), what == 6 ? -1 : 0);
        }
        e.due("force(0)", x.force(0), -2);
        e.due("force(NONE)", x.force(-1), -1);
        e.due("hour()", x.hour(), -1);
        e.due("undo()", x.undo(), -2);
        e.due("family(0, 0)", x.family(0, 0), -1);
        e.due("line(0, 0)", x.line(0, 0), -2);
        e.due("linen(0, 0)", x.linen(0, 0), -2);
        e.due("back(0)", x.back(0), -1);
        e.due("NONE", WashingLines.NONE, -1);
    }

    @Sentence(promise = 1, words = "An object is used for at most 512 calls after it has been made")
    static void the512thCall(Edge e) {
        WashingLines x = Edge.with("court 1 1");
        int calls = 4;
        for (; calls < 511; calls++) {
            x.hour();
        }
        e.due("the 512th call, count(7)", x.count(7), 507);
    }

    // ---- promise 2

    private static void fillUp(WashingLines x, int rows) {
        for (int i = 0; i < rows; i++) {
            x.feed(0x20202020, 0x20202020, 0x20202020, 0x20202020, 0x20202020);
        }
    }

    @Sentence(promise = 2, words = "Twenty bytes come behind the TAPE, of each number the highest first: how many it has")
    static void twentyBytes(Edge e) {
        for (int place = 0; place < 20; place++) {
            WashingLines x = new WashingLines();
            int[] n = {0x20202020, 0x20202020, 0x20202020, 0x20202020, 0x20202020};
            n[place / 4] ^= 1 << (24 - place % 4 * 8);
            e.due("feed", x.feed(n[0], n[1], n[2], n[3], n[4]), 20);
            e.due("a wrong byte at " + place, x.court(), Edge.fault(place, 0));
            fillUp(x, 2);
            e.due("feed", x.feed(n[0], n[1], n[2], n[3], n[4]), 60);
            e.due("a wrong byte at " + (40 + place), x.court(), Edge.fault(40 + place, 0));
        }
        WashingLines x = new WashingLines();
        x.feed(0x20202063, 0x6F757274, 0x31203131, 0x20202020, 0x2020203B);
        x.feed(0x66616D69, 0x6C793720, 0x20202020, 0x20202020, 0x20202020);
        e.due("court()", x.court(), 0);
        e.due("SOAK", x.count(1), 11);
        e.due("PEGS", x.family(0, 0), 7);
        x.feed(-1, -1, -1, -1, -1);
        e.due("of -1", x.count(14), 20);
        e.due("of -1, bytes of 255", x.court(), Edge.fault(0, 0));
    }

    @Sentence(promise = 2, words = "NONE, and none comes, if it would have more than 400.")
    static void fullTape(Edge e) {
        for (int left = 379; left <= 400; left++) {
            WashingLines x = new WashingLines();
            fillUp(x, 20);
            e.due("the tape is full", x.count(14), 400);
            x.end(left);
            int due = left <= 380 ? left + 20 : -1;
            e.due("feed with " + left, x.feed(0x21212121, 0x21212121, 0x21212121, 0x21212121, 0x21212121), due);
            e.due("bytes then", x.count(14), due < 0 ? left : due);
            e.due("no byte more", x.end(due < 0 ? left + 1 : due + 1), -1);
            e.due("the first that is no blank", x.court(), Edge.fault(left, 0));
        }
    }

    // ---- promise 3

    @Sentence(promise = 3, words = "The TAPE has its first n bytes alone: n")
    static void firstBytes(Edge e) {
        for (int n = 0; n <= 20; n++) {
            WashingLines x = new WashingLines();
            x.feed(0x20202020, 0x20202020, 0x20202020, 0x20202020, 0x20202020);
            e.due("end(" + n + ")", x.end(n), n);
            e.due("bytes", x.count(14), n);
            e.due("the end of a court", x.court(), Edge.fault(n, 0));
        }
        WashingLines x = new WashingLines();
        Edge.bring(x, "court 1 19;line 0 1 1 1");
        e.due("end(9)", x.end(9), 9);
        e.due("court()", x.court(), 0);
        e.due("SOAK", x.count(1), 1);
    }

    @Sentence(promise = 3, words = "NONE, and nothing happens, if it has not so many, or n is below 0.")
    static void notSoMany(Edge e) {
        WashingLines x = new WashingLines();
        e.due("end(0) of none", x.end(0), 0);
        e.due("end(1) of none", x.end(1), -1);
        e.due("end(-1) of none", x.end(-1), -1);
        fillUp(x, 2);
        for (int n : new int[] {41, 42, 400, 401, -1, -2, Integer.MIN_VALUE, Integer.MAX_VALUE}) {
            e.due("end(" + n + ")", x.end(n), -1);
            e.due("bytes then", x.count(14), 40);
        }
        e.due("end(40)", x.end(40), 40);
        e.due("end(39)", x.end(39), 39);
        e.due("end(40) then", x.end(40), -1);
        e.due("end(39) again", x.end(39), 39);
        WashingLines y = new WashingLines();
        fillUp(y, 20);
        e.due("end(401)", y.end(401), -1);
        e.due("end(400)", y.end(400), 400);
    }

    // ---- promise 4: what a court is

    @Sentence(promise = 4, words = "A COURT is a text of at most 400 bytes")
    static void fourHundredBytes(Edge e) {
        String text = "court 1 1;family 7";
        e.courtStands(text + " ".repeat(400 - text.length()), 0);
        e.courtStands(" ".repeat(400 - text.length()) + text, 0);
        e.courtFault(text + " ".repeat(399 - text.length()) + ";^", 0);
        e.courtFault(text + " ".repeat(399 - text.length()) + "^.", 0);
        e.courtFault(text + ";" + " ".repeat(399 - text.length()) + "^", 0);
        e.courtFault(" ".repeat(395) + "court^", 0);
        e.courtFault(" ".repeat(400) + "^", 0);
    }

    @Sentence(promise = 4, words = "CLAUSE { ; CLAUSE }")
    static void clauses(Edge e) {
        e.courtStands("court 1 1", 0);
        e.courtStands("court 1 1;family 0", 0);
        e.courtFault("^", 0);
        e.courtFault("^;", 0);
        e.courtFault("^;court 1 1", 0);
        e.courtFault("court 1 1;^", 0);
        e.courtFault("court 1 1;^;family 0", 0);
        e.courtFault("court 1 1 ^family 0", 0);
        e.courtFault("court 1 1;family 0;^", 0);
    }

    /** More than 34 can't be told: each of the 10 pieces is hung once at most. */
    @Sentence(promise = 4, words = "40 at most")
    static void mostClauses(Edge e) {
        StringBuilder text = new StringBuilder("court1 1" + ";family6".repeat(4) + ";line0 1 9 9".repeat(6));
        for (int i = 0; i < 10; i++) {
            text.append(";linen").append(i % 4).append(" 1 0");
        }
        text.append(";rain0 0".repeat(3));
        for (int i = 0; i < 10; i++) {
            text.append(";hung").append(i).append(i < 9 ? " 0" : " 1");
        }
        WashingLines x = new WashingLines();
        e.due("34 clauses", Edge.court(x, text.toString()), 6);
        e.due("34 clauses, all hangs", x.count(8), 1023);
        e.courtFault(text + ";hung9 ^1", 1);
        e.courtFault(text + ";^line", 4);
        e.courtFault(text + ";^", 0);
    }

    @Sentence(promise = 4, words = "court NUMBER NUMBER (SUN 1 to 5, by which what hangs is less WET in an HOUR")
    static void sun(Edge e) {
        e.courtNumber("court # 1", 1, 5, 0);
        for (int sun = 1; sun <= 5; sun++) {
            WashingLines x = Edge.with("court " + sun + " 20;family 2;line 0 1 1 9;linen 0 1 20;hung 0 0");
            e.due("SUN", x.count(0), sun);
            x.hour();
            e.due("less WET", x.linen(0, 2), 20 - sun);
        }
        e.courtFault("court^", 0);
        e.courtFault("court 1^", 0);
    }

    @Sentence(promise = 4, words = "SOAK 1 to 20, how WET RAIN makes it at least")
    static void soak(Edge e) {
        e.courtNumber("court 5 #", 1, 20, 0);
        for (int soak = 1; soak <= 20; soak++) {
            WashingLines x = Edge.with("court 1 " + soak + ";family 2;line 0 1 1 9;linen 0 1 10;hung 0 0;rain 0 0");
            e.due("SOAK", x.count(1), soak);
            x.hour();
            e.due("at least so WET", x.linen(0, 2), Math.max(soak, 10));
        }
    }

    @Sentence(promise = 4, words = "once, the first CLAUSE)")
    static void courtFirst(Edge e) {
        e.courtStands("court 1 1;family 1", 0);
        e.courtFault("court 1 1;^court 1 1", 4);
        e.courtFault("court 1 1;family 1;^court 1 1", 4);
        for (String word : new String[] {"family", "line", "linen", "hung", "rain"}) {
            e.courtFault("^" + word + " 0 1 1 1;court 1 1", 4);
            e.courtFault(" ^" + word, 4);
        }
    }

    @Sentence(promise = 4, words = "family NUMBER (PEGS 0 to 20)")
    static void pegs(Edge e) {
        e.courtNumber("court 1 1;family #", 0, 20, 0);
        e.due("none", Edge.with("court 1 1;family 0").family(0, 0), 0);
        e.due("most", Edge.with("court 1 1;family 20").family(0, 0), 20);
        e.courtFault("court 1 1;family^", 0);
        e.courtFault("court 1 1;family 1 ^1", 0);
    }

    @Sentence(promise = 4, words = "two POLES, 0 to 7")
    static void poles(Edge e) {
        for (int pole = 0; pole < 8; pole++) {
            int next = (pole + 1) % 8;
            WashingLines x = Edge.with("court 1 1;line " + pole + " " + next + " 1 1");
            e.due("first POLE", x.line(0, 0), pole);
            e.due("second POLE", x.line(0, 1), next);
        }
        e.courtFault("court 1 1;line ^8 0 1 1", 1);
        e.courtFault("court 1 1;line 0 ^8 1 1", 1);
        e.courtFault("court 1 1;line ^-1 0 1 1", 0);
        e.courtFault("court 1 1;line 0 ^-1 1 1", 0);
        e.courtFault("court 1 1;line ^000000 1 1 1", 1);
        e.courtFault("court 1 1;line 0 ^000001 1 1", 1);
        e.courtStands("court 1 1;line 00000 00007 1 1", 1);
    }

    @Sentence(promise = 4, words = "LENGTH 1 to 9; STRENGTH 1 to 99")
    static void lengthAndStrength(Edge e) {
        e.courtNumber("court 1 1;line 0 1 # 1", 1, 9, 1);
        e.courtNumber("court 1 1;line 0 1 1 #", 1, 99, 1);
        for (int n = 1; n <= 9; n += 8) {
            WashingLines x = Edge.with("court 1 1;line 0 1 " + n + " " + 11 * n);
            e.due("LENGTH", x.line(0, 2), n);
            e.due("STRENGTH", x.line(0, 3), 11 * n);
        }
        e.courtFault("court 1 1;line 0 1 1^", 0);
        e.courtFault("court 1 1;line 0 1 1 1 ^1", 0);
    }

    @Sentence(promise = 4, words = "linen NUMBER NUMBER NUMBER (a FAMILY that was told; LENGTH 1 to 4; how WET, 0 to 20)")
    static void linen(Edge e) {
        String families = "court 1 1";
        for (int n = 1; n <= 4; n++) {
            families += ";family 1";
            e.courtNumber(families + ";linen # 1 1", 0, n - 1, 0);
        }
        e.courtFault("court 1 1;linen ^0 1 1", 1);
        e.courtFault("court 1 1;linen ^0 1 1;family 1", 1);
        e.courtNumber("court 1 1;family 1;linen 0 # 1", 1, 4, 0);
        e.courtNumber("court 1 1;family 1;linen 0 1 #", 0, 20, 0);
        WashingLines x = Edge.with("court 1 1;family 1;family 1;linen 1 4 20;linen 0 1 0");
        e.due("FAMILY", x.linen(0, 0), 1);
        e.due("LENGTH", x.linen(0, 1), 4);
        e.due("WET", x.linen(0, 2), 20);
        e.due("WET", x.linen(1, 2), 0);
        e.courtFault("court 1 1;family 1;linen 0 1^", 0);
    }

    @Sentence(promise = 4, words = "hung NUMBER NUMBER (a LINEN, a LINE that were told")
    static void hungOfTold(Edge e) {
        String begin = "court 1 1;family 20;line 0 1 9 9;linen 0 1 0";
        e.courtStands(begin + ";hung 0 0", 1);
        e.courtFault(begin + ";hung ^1 0", 1);
        e.courtFault(begin + ";hung 0 ^1", 1);
        e.courtFault(begin + ";hung 0^", 0);
        e.courtFault(begin + ";hung ^1 0;linen 0 1 0", 1);
        e.courtFault(begin + ";hung 0 ^1;line 0 1 9 9", 1);
        e.courtFault(begin + ";hung ^-1 0", 0);
        e.courtFault(begin + ";hung ^000000 0", 1);
        e.courtFault("court 1 1;family 20;line 0 1 9 9;hung ^0 0", 1);
        e.courtFault("court 1 1;family 20;linen 0 1 0;hung 0 ^0", 1);
        e.courtStands(begin + ";line 0 1 9 9;linen 0 1 0;hung 1 1;hung 0 1", 2);
        e.courtStands(FULL + ";hung 9 5", 6);
        e.courtFault(FULL + ";hung ^10 5", 1);
        e.courtFault(FULL + ";hung 9 ^6", 1);
    }

    @Sentence(promise = 4, words = "it hangs there, as HANG lets by what was told so far)")
    static void hungAsHangLets(Edge e) {
        WashingLines x = Edge.with("court 1 1;family 3;line 0 1 5 9;linen 0 4 0;hung 0 0");
        e.due("it hangs", x.linen(0, 3), 0);
        e.due("PEGS", x.family(0, 0), 1);
        e.due("LENGTH left", x.line(0, 4), 1);
        String lengths = "court 1 1;family 20;line 0 1 5 9;linen 0 3 0;linen 0 2 0;linen 0 3 0;linen 0 1 0;hung 0 0";
        e.courtStands(lengths + ";hung 1 0", 1);
        e.courtStands(lengths + ";hung 3 0", 1);
        e.courtFault(lengths + ";hung 2 ^0", 1);
        e.courtFault(lengths + ";hung 1 0;hung 3 ^0", 1);
        e.courtFault("court 1 1;family 20;line 0 1 3 9;linen 0 4 0;hung 0 ^0", 1);
        for (int pegs = 0; pegs <= 5; pegs++) {
            String two = "court 1 1;family " + pegs + ";family 20;line 0 1 9 9;linen 0 1 0;linen 0 1 0;linen 1 1 0;hung 2 0";
            if (pegs < 2) {
                e.courtFault(two + ";hung 0 ^0", 1);
            } else if (pegs < 4) {
                e.courtStands(two + ";hung 0 0", 1);
                e.courtFault(two + ";hung 0 0;hung 1 ^0", 1);
            } else {
                e.courtStands(two + ";hung 0 0;hung 1 0", 1);
            }
        }
        e.courtFault(lengths + ";line 0 1 9 9;hung 0 ^1", 1);
        e.courtFault(lengths + ";hung 0 ^0", 1);
    }

    @Sentence(promise = 4, words = "rain NUMBER NUMBER (the first, the last HOUR, 0 to 99, not below the first)")
    static void rain(Edge e) {
        e.courtNumber("court 1 1;rain # 99", 0, 99, 0);
        e.courtNumber("court 1 1;rain 0 #", 0, 99, 0);
        e.courtNumber("court 1 1;rain 41 #", 41, 99, 0);
        e.courtFault("court 1 1;rain 41 ^0", 1);
        e.courtFault("court 1 1;rain 99 ^98", 1);
        e.courtStands("court 1 1;rain 99 99", 0);
        e.courtFault("court 1 1;rain 1^", 0);
    }

    @Sentence(promise = 4, words = "FAMILIES 0 to 3, LINES 0 to 5, LINEN 0 to 9, RAINS 0 to 2, in the order told.")
    static void howMany(Edge e) {
        crowd(e, ";family 1", 4, "court 1 1");
        crowd(e, ";line 0 1 1 1", 6, "court 1 1");
        crowd(e, ";linen 0 1 1", 10, "court 1 1;family 1");
        crowd(e, ";rain 1 1", 3, "court 1 1");
        WashingLines x = Edge.with("court 1 1;family 11;line 0 1 1 1;family 12;line 0 1 2 1;line 0 1 3 1;family 13;"
            + "linen 2 1 0;family 14;line 0 1 4 1;linen 3 2 0;line 0 1 5 1;line 0 1 6 1");
        for (int family = 0; family < 4; family++) {
            e.due("FAMILY " + family, x.family(family, 0), 11 + family);
        }
        for (int line = 0; line < 6; line++) {
            e.due("LINE " + line, x.line(line, 2), 1 + line);
        }
        e.due("LINEN 0", x.linen(0, 1), 1);
        e.due("LINEN 1", x.linen(1, 1), 2);
        e.due("FAMILY 4", x.family(4, 0), -1);
        e.due("LINE 6", x.line(6, 2), -2);
        e.due("LINEN 2", x.linen(2, 1), -2);
    }

    private static void crowd(Edge e, String clause, int most, String begin) {
        int lines = clause.contains("line ") ? most : 0;
        e.courtStands(begin + clause.repeat(most - 1), Math.max(0, lines - 1));
        e.courtStands(begin + clause.repeat(most), lines);
        e.courtFault(begin + clause.repeat(most) + clause.replace(";", ";^"), 4);
        e.courtFault(begin + clause.repeat(most) + clause.replace(";", "; ^"), 4);
    }

    @Sentence(promise = 4, words = "It is HOUR 0; no LINE was HELD.")
    static void atTheBegin(Edge e) {
        WashingLines x = Edge.with("court 1 1;family 20;line 0 1 9 9;line 0 1 9 9;linen 0 1 9;hung 0 0");
        e.due("HOUR", x.count(7), 0);
        e.due("HELD", x.line(0, 7), -1);
        e.due("HELD", x.line(1, 7), -1);
        e.due("AIR", x.family(0, 1), 0);
        e.due("nothing is CUT", x.count(9), 0);
        x.hour();
        x.cut(1);
        Edge.court(x, "court 1 1;family 20;line 0 1 9 9;line 0 1 9 9;linen 0 1 9;hung 0 0");
        e.due("HOUR of another court", x.count(7), 0);
        e.due("HELD in another court", x.line(0, 7), -1);
        e.due("AIR in another court", x.family(0, 1), 0);
        e.due("nothing is CUT in another court", x.count(9), 0);
    }

    // ---- promise 4: faults

    @Sentence(promise = 4, words = "FAULTS, the first along the text, 1 + 8 * its place and")
    static void theFirstFault(Edge e) {
        WashingLines x = new WashingLines();
        e.due("the least, at place 0", Edge.court(x, ""), -3);
        e.due("a 4 at place 0", Edge.court(x, "line"), -7);
        e.due("at place 399", Edge.court(x, "court 1 1" + " ".repeat(390) + "!"), -2 - (1 + 8 * 399));
        e.due("behind 400 bytes", Edge.court(x, " ".repeat(400)), -2 - (1 + 8 * 400));
        e.courtFault("court ^0 0", 1);
        e.courtFault("court ^0 x", 1);
        e.courtFault("court ^x 0", 0);
        e.courtFault("court 1 1;family ^99;court 1 1", 1);
        e.courtFault("court 1 1;^court 1 1;family 99", 4);
        e.courtFault("court 1 1;line 0 ^0 0 0", 1);
    }

    @Sentence(promise = 4, words = "0 a byte or WORD that can't stand there, or the end (behind the last byte)")
    static void cannotStand(Edge e) {
        for (char sign = 0; sign < 256; sign++) {
            if (sign != ' ') {
                e.courtFault("court 1 1;^" + sign, 0);
                e.courtFault("^" + sign + " 1 1", 0);
            }
            if (sign != ' ' && sign != ';') {
                e.courtFault("court 1 1 ^" + sign, 0);
            }
            if (sign != ' ' && (sign < '0' || sign > '9')) {
                e.courtFault("court ^" + sign + " 1", 0);
            }
        }
        e.courtFault("^courts 1 1", 0);
        e.courtFault("^cour 1 1", 0);
        e.courtFault("^courtfamily 1 1", 0);
        e.courtFault("^claim 1", 0);
        e.courtFault("court 1 1;^if", 0);
        e.courtFault("court 1 1;^cells", 0);
        e.courtFault("court 1 ^one", 0);
        e.courtFault("court 1^", 0);
        e.courtFault("court 1    ^", 0);
        e.courtFault("court 1 1;  ^", 0);
        for (String word : new String[] {"court", "family", "line", "linen", "hung", "rain"}) {
            for (int i = 0; i < word.length(); i++) {
                e.courtFault("court 1 1;^" + word.substring(0, i) + "z" + word.substring(i + 1), 0);
            }
        }
        e.courtFault("^zourt 1 1", 0);
        e.courtFault("court 1^a 1", 0);
        e.courtFault("court 1 1^a", 0);
        e.courtFault("court^A 1 1", 0);
        e.courtFault("^Court 1 1", 0);
        e.courtFault("^cOURT 1 1", 0);
    }

    @Sentence(promise = 4, words = "1 a NUMBER of more digits, or not as told")
    static void notAsTold(Edge e) {
        e.courtStands("court 00001 00001", 0);
        e.courtFault("court ^000001 1", 1);
        e.courtFault("court 1 ^000001", 1);
        e.courtFault("court 1 ^0", 1);
        e.courtFault("court 1 ^21", 1);
        e.courtFault("court 1 1;family ^" + "0".repeat(300), 1);
        e.courtFault("court 1 1 ^000001", 0);
        e.courtFault("court 1 1^.000001", 0);
    }

    @Sentence(promise = 4, words = "of line the second POLE, if it is the first")
    static void samePole(Edge e) {
        for (int pole = 0; pole < 8; pole++) {
            e.courtFault("court 1 1;line " + pole + " ^" + pole + " 1 1", 1);
            e.courtFault("court 1 1;line " + pole + " ^0" + pole + " 1 1", 1);
            e.courtFault("court 1 1;line " + pole + " ^" + pole, 1);
            if (pole > 0) {
                e.courtStands("court 1 1;line " + pole + " " + (pole - 1) + " 1 1", 1);
            }
            if (pole < 7) {
                e.courtStands("court 1 1;line " + pole + " " + (pole + 1) + " 1 1", 1);
            }
        }
    }

    @Sentence(promise = 4, words = "of hung the LINE, if it can't be HUNG there")
    static void cannotBeHung(Edge e) {
        String begin = "court 1 1;family 3;line 0 1 3 9;line 0 1 9 9;linen 0 3 0;linen 0 4 0";
        e.courtFault(begin + ";hung   1   ^0   ;court", 1);
        e.courtFault(begin + ";hung 0 0;hung 0 ^1", 1);
        e.courtFault(begin + ";hung 0 0;hung 1 ^1", 1);
        e.courtFault(begin + ";hung 1 ^0 0", 1);
        e.courtFault(begin + ";hung 1 1 ^0", 0);
        e.courtStands(begin + ";hung 1 1", 2);
        e.courtStands(begin + ";hung 0 0", 2);
    }

    @Sentence(promise = 4, words = "4 one CLAUSE too many, a second court, another CLAUSE ahead of it, a fifth FAMILY, a "
        + "seventh LINE, an eleventh LINEN, a fourth RAIN (at its first byte).")
    static void oneTooMany(Edge e) {
        e.courtFault("court 1 1;^court", 4);
        e.courtFault("^family", 4);
        e.courtFault("court 1 1" + ";family 1".repeat(4) + ";^family", 4);
        e.courtFault("court 1 1" + ";line 0 1 1 1".repeat(6) + ";^line", 4);
        e.courtFault("court 1 1;family 1" + ";linen 0 1 1".repeat(10) + ";^linen", 4);
        e.courtFault("court 1 1" + ";rain 1 1".repeat(3) + ";^rain", 4);
        e.courtFault("court 1 1" + ";family 1".repeat(3) + ";family^", 0);
        e.courtFault("court 1 1" + ";line 0 1 1 1".repeat(5) + ";line^", 0);
        e.courtFault("court 1 1;family 1" + ";linen 0 1 1".repeat(9) + ";linen^", 0);
        e.courtFault("court 1 1" + ";rain 1 1".repeat(2) + ";rain^", 0);
    }

    @Sentence(promise = 4, words = "Of one place the least.")
    static void theLeastFault(Edge e) {
        e.courtFault("court 1 1" + ";family 1".repeat(4) + ";^familys", 0);
        e.courtFault("court 1 1" + ";family 1".repeat(4) + ";^", 0);
        e.courtFault("^lines", 0);
        e.courtFault("^claim", 0);
        e.courtFault("court 1 1" + ";rain 1 1".repeat(3) + ";^rainy", 0);
        e.courtFault("court 1 1;^courts", 0);
    }

    // ---- promise 4: what the call does

    @Sentence(promise = 4, words = "The TAPE, which is empty then, is the COURT in place of the one there was")
    static void inPlace(Edge e) {
        WashingLines x = Edge.with(FULL + ";hung 0 0;hung 9 5");
        e.due("bytes", x.count(14), 0);
        x.hour();
        x.cut(3);
        e.due("a smaller court", Edge.court(x, "court 2 3;family 4;line 6 7 5 8;linen 0 1 2"), 1);
        e.due("bytes", x.count(14), 0);
        e.same("all of it", Edge.all(x), Edge.all(Edge.with("court 2 3;family 4;line 6 7 5 8;linen 0 1 2")));
        e.due("no RAIN is left", x.count(10), 0);
        for (int i = 0; i < 2; i++) {
            e.due("all the RAINS", Edge.court(x, "court 1 1;rain 0 0;rain 1 1;rain 2 2"), 0);
            e.due("RAIN", x.count(10), 1);
        }
        e.due("the smallest court", Edge.court(x, "court 1 1"), 0);
        e.due("no RAIN is left", x.count(10), 0);
        e.same("all of it", Edge.all(x), Edge.all(Edge.with("court 1 1")));
        e.due("the full court", Edge.court(x, FULL), 6);
        e.same("all of it", Edge.all(x), Edge.all(Edge.with(FULL)));
    }

    @Sentence(promise = 4, words = "(no LOGS, nothing to be UNDONE; the RULE IN FORCE, x and IMAGES stay)")
    static void whatStays(Edge e) {
        WashingLines x = Edge.under("court 1 1;family 4;family 4;line 0 1 5 9", "claim family");
        x.seed(2147483647);
        x.log(0, 0, 1);
        x.hour();
        x.image(3);
        e.due("LOGS", x.count(11), 1);
        e.due("ACTS", x.count(12), 1);
        Edge.court(x, "court 1 1;family 9;family 4;line 0 1 5 9");
        e.due("LOGS then", x.count(11), 0);
        e.due("undo() then", x.undo(), -2);
        e.due("IN FORCE then", x.count(6), 0);
        e.due("whose the LINE is then", x.line(0, 6), 1);
        e.due("x then", x.count(13), 2147483647);
        e.due("RULES then", x.count(5), 1);
        e.due("the IMAGE then", x.back(3), 1);
        e.due("PEGS of the IMAGE", x.family(0, 0), 4);
        e.due("IMAGE 2 then", x.back(2), -1);
    }

    @Sentence(promise = 4, words = "how many LINES; -2 - its FAULT, and all else stays.")
    static void howManyLines(Edge e) {
        StringBuilder text = new StringBuilder("court 1 1");
        for (int lines = 0; lines <= 6; lines++) {
            e.due(lines + " LINES", Edge.court(new WashingLines(), text.toString()), lines);
            text.append(";line 0 1 1 1");
        }
        WashingLines x = Edge.under("court 1 1;family 4;line 0 1 5 9;linen 0 1 9;hung 0 0;rain 1 1", "claim wet");
        x.hour();
        x.log(0, 0, 0);
        x.seed(5);
        String before = Edge.all(x);
        String spoilt = "court 2 2;family 9;line 0 1 9 9;linen 0 2 8;hung 0 0;rain 0 9;";
        e.due("a fault at the end", Edge.court(x, spoilt), Edge.fault(spoilt.length(), 0));
        e.same("all else", Edge.all(x), before);
        e.due("an empty tape", x.court(), -3);
        e.same("all else", Edge.all(x), before);
        e.due("what can be UNDONE", x.undo(), 0);
    }
}
