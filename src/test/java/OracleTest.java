import java.util.Random;

/** Long runs of drawn calls, each answer compared with the oracle's. */
public final class OracleTest {
    private static final String[] CALLS = {"family", "line", "linen", "hour", "hang", "take", "wash", "cut", "mend", "undo",
        "ahead", "dries", "most", "game", "free", "few", "way", "bears", "storm", "worth", "log", "ruled", "look", "laws",
        "seed", "years", "count", "image", "back", "force", "text", "tape"};

    private final Random draws;
    private final Texts texts;
    private final WashingLines program = new WashingLines();
    private final Oracle oracle = new Oracle();
    private final StringBuilder run = new StringBuilder();

    private OracleTest(long seed) {
        draws = new Random(seed);
        texts = new Texts(draws);
    }

    public static void main(String[] args) {
        int runs = args.length > 1 ? Integer.parseInt(args[1]) : 600;
        int from = args.length > 2 ? Integer.parseInt(args[2]) : 0;
        for (int seed = from; seed < from + runs; seed++) {
            String wrong = new OracleTest(seed).wrong();
            for (int i = 0; i < 20 && wrong == null; i++) {
                wrong = new OracleTest(1000L * seed + i).wrongTexts();
            }
            if (wrong != null) {
                System.out.println("seed " + seed + ": " + wrong);
                System.exit(1);
            }
        }
    }

    /** Courts and rules alone, on objects of their own, so that there are not yet 6 rules. */
    private String wrongTexts() {
        String wrong = null;
        for (int i = 0; i < 6 && wrong == null; i++) {
            boolean court = draws.nextBoolean();
            String text = texts.any(court);
            wrong = bring(draws.nextBoolean() ? texts.spoilt(text) : text, court);
        }
        return wrong;
    }

    private String wrong() {
        boolean careful = draws.nextInt(4) > 0;
        String wrong = careful ? bring(texts.court(true), true) : null;
        for (int i = careful ? draws.nextInt(5) : 0; i > 0 && wrong == null; i--) {
            wrong = bring(texts.rule(), false);
        }
        for (int i = 0; i < 120 && wrong == null; i++) {
            String call = CALLS[draws.nextInt(CALLS.length)];
            if (call.equals("text")) {
                boolean court = draws.nextInt(3) == 0;
                wrong = draws.nextInt(3) == 0 ? bring(texts.any(court), court) : null;
            } else {
                wrong = same(call);
            }
        }
        return wrong;
    }

    private String bring(String text, boolean court) {
        String right = text.length() > 400 ? text.substring(0, 400) : text;
        program.end(0);
        oracle.end(0);
        for (int[] r : Texts.rows(right)) {
            if (program.feed(r[0], r[1], r[2], r[3], r[4]) != oracle.feed(r[0], r[1], r[2], r[3], r[4])) {
                return "feed of " + right;
            }
        }
        int a = program.end(right.length());
        int b = oracle.end(right.length());
        run.append(court ? "\ncourt " : "\nrule ").append(right);
        int c = court ? program.court() : program.rule();
        int d = court ? oracle.court() : oracle.rule();
        return a == b && c == d ? null : run + "\nanswered " + c + ", due is " + d;
    }

    /** A number mostly from 0 to high, now and then beyond or far off. */
    private int about(int high) {
        switch (draws.nextInt(24)) {
            case 0: return -1;
            case 1: return high + 1;
            case 2: return draws.nextInt();
            default: return draws.nextInt(high + 1);
        }
    }

    private String same(String call) {
        int a = about(5);
        int b = about(5);
        int c = about(call.equals("line") ? 8 : 3);
        int n = about(6);
        int two = about(1);
        int piece = about(9);
        run.append('\n').append(call).append(' ').append(a).append(' ').append(b).append(' ').append(c).append(' ').append(n)
            .append(' ').append(two).append(' ').append(piece);
        long got;
        long due;
        switch (call) {
            case "family": got = program.family(a, c); due = oracle.family(a, c); break;
            case "line": got = program.line(a, c); due = oracle.line(a, c); break;
            case "linen": got = program.linen(piece, c); due = oracle.linen(piece, c); break;
            case "hour": got = program.hour(); due = oracle.hour(); break;
            case "hang": got = program.hang(piece, a); due = oracle.hang(piece, a); break;
            case "take": got = program.take(piece); due = oracle.take(piece); break;
            case "wash": got = program.wash(piece); due = oracle.wash(piece); break;
            case "cut": got = program.cut(a); due = oracle.cut(a); break;
            case "mend": got = program.mend(a) ? 1 : 0; due = oracle.mend(a) ? 1 : 0; break;
            case "undo": got = program.undo(); due = oracle.undo(); break;
            case "ahead": int far = about(100); got = program.ahead(b, far, c); due = oracle.ahead(b, far, c); break;
            case "dries": got = program.dries(piece); due = oracle.dries(piece); break;
            case "most": int w = about(4); got = program.most(c, n, w); due = oracle.most(c, n, w); break;
            case "game": int t = about(2) + 1; int d = about(3);
                got = program.game(c, d, t, two); due = oracle.game(c, d, t, two); break;
            case "free": got = program.free(a, two); due = oracle.free(a, two); break;
            case "few": got = program.few(c, a, two); due = oracle.few(c, a, two); break;
            case "way": int e = about(7); int f = about(7); got = program.way(e, f, two); due = oracle.way(e, f, two); break;
            case "bears": got = program.bears(a); due = oracle.bears(a); break;
            case "storm": int g = about(99); got = program.storm(g); due = oracle.storm(g); break;
            case "worth": int h = about(60); got = program.worth(piece, h); due = oracle.worth(piece, h); break;
            case "log": int m = n == -1 ? -1 : about(draws.nextBoolean() ? 60 : 4);
                int who = draws.nextInt(5) == 0 ? about(4) - 1 : oracle.holder(c - 1, m, a);
                got = program.log(m, a, who); due = oracle.log(m, a, who); break;
            case "ruled": got = program.ruled(two); due = oracle.ruled(two); break;
            case "look": int k = about(60); got = program.look(k, two); due = oracle.look(k, two); break;
            case "laws": int q = about(60); got = program.laws(c, q, two); due = oracle.laws(c, q, two); break;
            case "seed": int x = draws.nextInt(); got = program.seed(x); due = oracle.seed(x); break;
            case "years": int y = about(10); int z = about(60); int p = about(100);
                got = program.years(y, z, p, two); due = oracle.years(y, z, p, two); break;
            case "count": int v = about(14); got = program.count(v); due = oracle.count(v); break;
            case "image": got = program.image(c); due = oracle.image(c); break;
            case "back": got = program.back(c); due = oracle.back(c); break;
            case "force": int u = n - 1; got = program.force(u); due = oracle.force(u); break;
            default: int o = about(40); got = program.end(o); due = oracle.end(o);
                got += 1000L * program.feed(a, b, c, n, piece); due += 1000L * oracle.feed(a, b, c, n, piece); break;
        }
        return got == due ? null : run + "\nanswered " + got + ", due is " + due;
    }
}
