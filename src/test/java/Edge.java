import java.math.BigInteger;
import java.util.function.IntUnaryOperator;
import java.util.function.Supplier;
import java.util.function.ToIntFunction;

/** The calls by which one sentence of the document is tried, all on new objects; what is not as due is told. */
final class Edge {
    private final String sentence;
    private int tried;
    private int wrong;

    Edge(String sentence) {
        this.sentence = sentence;
    }

    int tried() {
        return tried;
    }

    int wrong() {
        return wrong;
    }

    void due(String call, long got, long want) {
        tried++;
        if (got != want) {
            wrong++;
            System.out.println(sentence + ": " + call + " answered " + got + ", due is " + want);
        }
    }

    void due(String call, boolean got, boolean want) {
        due(call, got ? 1 : 0, want ? 1 : 0);
    }

    void same(String call, String got, String want) {
        tried++;
        if (!got.equals(want)) {
            wrong++;
            System.out.println(sentence + ": " + call + ": all is\n" + got + "due is\n" + want);
        }
    }

    /** A call that answers so on a new object, brought into some state, and leaves all as it is. */
    void refused(String call, Supplier<WashingLines> made, ToIntFunction<WashingLines> answer, int want) {
        WashingLines x = made.get();
        String before = all(x);
        due(call, answer.applyAsInt(x), want);
        same(call + " changes nothing", all(x), before);
    }

    /** A number that must lie within two others: one step out of these, and far out, is refused; both are not. */
    void within(String call, int low, int high, int refused, IntUnaryOperator answer) {
        due(call + " of " + (low - 1), answer.applyAsInt(low - 1), refused);
        due(call + " of " + (high + 1), answer.applyAsInt(high + 1), refused);
        due(call + " of the least number", answer.applyAsInt(Integer.MIN_VALUE), refused);
        due(call + " of the greatest number", answer.applyAsInt(Integer.MAX_VALUE), refused);
        due(call + " of " + low + " is not refused", answer.applyAsInt(low) != refused, true);
        due(call + " of " + high + " is not refused", answer.applyAsInt(high) != refused, true);
    }

    // ---- texts

    static void bring(WashingLines x, String text) {
        x.end(0);
        for (int[] r : Texts.rows(text)) {
            x.feed(r[0], r[1], r[2], r[3], r[4]);
        }
        x.end(text.length());
    }

    static int court(WashingLines x, String text) {
        bring(x, text);
        return x.court();
    }

    static int rule(WashingLines x, String text) {
        bring(x, text);
        return x.rule();
    }

    static WashingLines with(String court) {
        WashingLines x = new WashingLines();
        int lines = court(x, court);
        if (lines < 0) {
            throw new IllegalArgumentException(court + " is refused: " + lines);
        }
        return x;
    }

    /** A court with rules, the first of which is in force. */
    static WashingLines under(String court, String... rules) {
        WashingLines x = with(court);
        for (String rule : rules) {
            int number = rule(x, rule);
            if (number < 0) {
                throw new IllegalArgumentException(rule + " is refused: " + number);
            }
        }
        x.force(0);
        return x;
    }

    /** What court() and rule() answer for a fault. */
    static int fault(int place, int kind) {
        return -2 - (1 + 8 * place + kind);
    }

    void courtStands(String text, int lines) {
        WashingLines x = new WashingLines();
        due("court '" + text + "'", court(x, text), lines);
        due("court '" + text + "', the tape then", x.count(14), 0);
        due("court '" + text + "', it is there", x.count(0) > 0, true);
    }

    /** A court that is refused where a ^ stands (which is no part of it). */
    void courtFault(String marked, int kind) {
        String text = marked.replaceFirst("\\^", "");
        WashingLines x = new WashingLines();
        due("court '" + marked + "'", court(x, text), fault(marked.indexOf('^'), kind));
        due("court '" + marked + "', the tape then", x.count(14), 0);
        due("court '" + marked + "', no court then", x.count(0), 0);
    }

    void ruleStands(String text) {
        WashingLines x = new WashingLines();
        due("rule '" + text + "'", rule(x, text), 0);
        due("rule '" + text + "', the tape then", x.count(14), 0);
        due("rule '" + text + "', rules then", x.count(5), 1);
    }

    /** A rule that is refused where a ^ stands (which is no part of it). */
    void ruleFault(String marked, int kind) {
        String text = marked.replaceFirst("\\^", "");
        WashingLines x = new WashingLines();
        due("rule '" + marked + "'", rule(x, text), fault(marked.indexOf('^'), kind));
        due("rule '" + marked + "', the tape then", x.count(14), 0);
        due("rule '" + marked + "', rules then", x.count(5), 0);
    }

    /** A number of a court, where a # stands, that must lie within two others, with five digits at most. */
    void courtNumber(String text, int low, int high, int lines) {
        for (int n = low; n <= high; n++) {
            courtStands(text.replace("#", Integer.toString(n)), lines);
        }
        courtStands(text.replace("#", String.format("%05d", high)), lines);
        courtFault(text.replace("#", "^" + (high + 1)), 1);
        courtFault(text.replace("#", "^" + (low - 1)), low == 0 ? 0 : 1);
        courtFault(text.replace("#", "^" + String.format("%06d", high)), 1);
        courtFault(text.replace("#", "^99999"), 1);
        courtFault(text.replace("#", "^" + (4294967296L + low)), 1);
        courtFault(text.replace("#", "^" + BigInteger.ONE.shiftLeft(64).add(BigInteger.valueOf(low))), 1);
    }

    // ---- all that can be told of an object without asking much

    static String all(WashingLines x) {
        StringBuilder b = new StringBuilder("count");
        for (int what = 0; what < 15; what++) {
            b.append(' ').append(x.count(what));
        }
        for (int family = 0; family < x.count(2); family++) {
            b.append("\nfamily").append(family);
            for (int what = 0; what < 4; what++) {
                b.append(' ').append(x.family(family, what));
            }
        }
        for (int line = 0; line < x.count(3); line++) {
            b.append("\nline").append(line);
            for (int what = 0; what < 9; what++) {
                b.append(' ').append(x.line(line, what));
            }
        }
        for (int linen = 0; linen < x.count(4); linen++) {
            b.append("\nlinen").append(linen);
            for (int what = 0; what < 4; what++) {
                b.append(' ').append(x.linen(linen, what));
            }
        }
        return b.append('\n').toString();
    }
}
