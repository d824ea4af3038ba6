import java.nio.charset.StandardCharsets;
import java.util.ArrayList;
import java.util.List;
import java.util.Random;

/** Texts of courts and rules by draws, right ones and spoilt ones, and how they come onto a tape. */
final class Texts {
    private static final String[] WORDS = {"family", "line", "length", "cells", "wet", "wettest", "all", "others", "held",
        "pegs", "air", "hour", "rain"};
    private static final String[] STRAY = {"claim", "if", "and", "or", "not", "court", "linen", "hung", "family", "line",
        "rain", "wet", "[", "]", ";", "<", "<=", "=", ">=", ">", "+", "-", "*", "/", "%", "0", "7", "99999", "100000", " ",
        "a", "A", "\u00e9", "\t", "=<", "12345678901"};

    private final Random draws;

    Texts(Random draws) {
        this.draws = draws;
    }

    /** The numbers to be fed for a text, 20 bytes a row; the last row is filled up with zeros. */
    static int[][] rows(String text) {
        byte[] bytes = text.getBytes(StandardCharsets.ISO_8859_1);
        int[][] rows = new int[(bytes.length + 19) / 20][5];
        for (int i = 0; i < bytes.length; i++) {
            rows[i / 20][i % 20 / 4] |= (bytes[i] & 255) << (24 - 8 * (i % 4));
        }
        return rows;
    }

    private String blank() {
        return draws.nextInt(6) == 0 ? " ".repeat(draws.nextInt(3)) : "";
    }

    private String numbers(String word, int... numbers) {
        StringBuilder b = new StringBuilder(blank()).append(word);
        for (int n : numbers) {
            b.append(' ').append(blank()).append(draws.nextInt(30) == 0 ? "0" : "").append(n);
        }
        return b.append(blank()).toString();
    }

    private int within(int low, int high) {
        return low + draws.nextInt(high - low + 1);
    }

    /** A right court, mostly; what hangs is told without much care, so that some of it can't. */
    String court(boolean careful) {
        List<String> clauses = new ArrayList<>();
        int families = within(careful ? 1 : 0, 4);
        int lines = within(careful ? 1 : 0, 6);
        int linen = families == 0 ? 0 : within(0, 10);
        for (int i = 0; i < families; i++) {
            clauses.add(numbers("family", within(0, 20)));
        }
        int[] left = new int[lines];
        for (int i = 0; i < lines; i++) {
            int a = within(0, draws.nextBoolean() ? 3 : 7);
            int b = (a + within(1, 3)) % (a > 3 ? 8 : 4);
            left[i] = within(1, 9);
            clauses.add(numbers("line", a, a == b ? (b + 1) % 8 : b, left[i], within(1, draws.nextBoolean() ? 99 : 30)));
        }
        int[] length = new int[linen];
        int[] owner = new int[linen];
        for (int i = 0; i < linen; i++) {
            length[i] = within(1, 4);
            owner[i] = within(0, families - 1);
            clauses.add(numbers("linen", owner[i], length[i], draws.nextInt(4) == 0 ? 0 : within(0, 20)));
        }
        for (int i = 0; i < linen && lines > 0; i++) {
            int line = within(0, lines - 1);
            boolean fits = left[line] >= length[i];
            if (draws.nextInt(3) > 0 && (fits || !careful && draws.nextInt(9) == 0)) {
                clauses.add(numbers("hung", i, line));
                left[line] -= length[i];
            }
        }
        for (int i = within(0, 3); i > 0; i--) {
            int first = within(0, draws.nextBoolean() ? 8 : 70);
            clauses.add(numbers("rain", first, within(first, Math.min(99, first + 9))));
        }
        String head = numbers("court", within(1, 5), within(1, 20));
        return head + (clauses.isEmpty() ? "" : ";" + String.join(";", clauses));
    }

    String rule() {
        StringBuilder b = new StringBuilder();
        int size = draws.nextInt(8) == 0 ? 12 : 4;
        int clauses = within(1, size);
        for (int i = 0; i < clauses; i++) {
            b.append(i > 0 ? ";" : "").append(blank()).append("claim ").append(sum());
            if (draws.nextInt(3) > 0) {
                b.append(" if ").append(test(draws.nextInt(20) == 0 ? 9 : 2));
            }
        }
        return b.toString();
    }

    private String value() {
        int kind = draws.nextInt(10);
        if (kind < 7) {
            return WORDS[draws.nextInt(WORDS.length)];
        }
        return Integer.toString(kind == 7 ? draws.nextInt(100000) : draws.nextInt(6));
    }

    private String sum() {
        StringBuilder b = new StringBuilder(value());
        for (int i = draws.nextInt(4); i > 0; i--) {
            b.append(blank()).append("+-*/%".charAt(draws.nextInt(5))).append(blank()).append(value());
        }
        return b.toString();
    }

    private String fact(int deep) {
        if (deep > 0 && draws.nextInt(3) == 0) {
            return "not " + fact(deep - 1);
        }
        if (deep > 0 && draws.nextInt(3) == 0) {
            return "[" + blank() + test(deep - 1) + "]";
        }
        String[] signs = {"<", "<=", "=", ">=", ">"};
        return sum() + blank() + signs[draws.nextInt(5)] + blank() + sum();
    }

    private String test(int deep) {
        StringBuilder b = new StringBuilder(fact(deep));
        for (int i = draws.nextInt(3); i > 0; i--) {
            b.append(draws.nextBoolean() ? " and " : " or ").append(fact(deep));
        }
        return b.toString();
    }

    /** Many of one kind, for what the counts and the depth allow. */
    String crowded() {
        int n = within(1, 70);
        switch (draws.nextInt(7)) {
            case 0: return "claim 1" + "+1".repeat(n);
            case 1: return "claim 1 if " + "[".repeat(n % 14) + "1=1" + "]".repeat(n % 14);
            case 2: return "claim 1 if " + "not ".repeat(n % 14) + "1=1";
            case 3: return "claim 1 if 1<2" + " and 1<2".repeat(n % 24);
            case 4: return "claim 1 if " + "not[".repeat(n % 7) + "not wet=1" + "]".repeat(n % 7);
            case 5: return "claim 1 if 1*2>=1*1" + " or wet>1".repeat(n % 24);
            default: return "claim 1" + ";claim 1".repeat(n % 15);
        }
    }

    String spoilt(String text) {
        StringBuilder b = new StringBuilder(text);
        for (int i = draws.nextInt(2); i >= 0 && b.length() > 0; i--) {
            int at = draws.nextInt(b.length() + 1);
            String stray = STRAY[draws.nextInt(STRAY.length)];
            switch (draws.nextInt(6)) {
                case 0: b.insert(at, stray); break;
                case 1: b.insert(at, " " + stray + " "); break;
                case 2: b.delete(at, Math.min(b.length(), at + 1 + draws.nextInt(4))); break;
                case 3: b.setLength(at); break;
                case 4: b.replace(at, Math.min(b.length(), at + 1), stray); break;
                default: b.append(";").append(text, 0, Math.min(text.length(), at)); break;
            }
        }
        return b.toString();
    }

    String any(boolean court) {
        String text = court ? court(draws.nextBoolean()) : draws.nextInt(8) == 0 ? crowded() : rule();
        int kind = draws.nextInt(4);
        if (kind == 0) {
            text = spoilt(text);
        }
        return text.length() > 400 ? text.substring(0, 400) : text;
    }
}
