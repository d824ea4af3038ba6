import java.util.ArrayList;
import java.util.Arrays;
import java.util.List;

/** The document told once more, in the plainest way and with the Java library, to be compared with the program. */
final class Oracle {
    static final class Fault extends RuntimeException {
        private static final long serialVersionUID = 1L;
        final int code;

        Fault(int place, int what) {
            super("fault");
            code = 1 + 8 * place + what;
        }
    }

    record Token(String text, int place) { }

    record Line(int a, int b, int length, int strength) { }

    record Linen(int family, int length, int wet) { }

    record Log(int n, int line, int family) { }

    /** What a text of a court tells; never changed once it is read. */
    static final class Told {
        int sun;
        int soak;
        final List<Integer> pegs = new ArrayList<>();
        final List<Line> lines = new ArrayList<>();
        final List<Linen> linen = new ArrayList<>();
        final List<int[]> rains = new ArrayList<>();
        State begin = new State();

        boolean rain(int hour) {
            return rains.stream().anyMatch(r -> r[0] <= hour && hour <= r[1]);
        }
    }

    static final class State {
        int hour;
        int[] held = new int[0];
        boolean[] cut = new boolean[0];
        int[] on = new int[0];
        int[] wet = new int[0];
        int[] pegs = new int[0];
        int[] air = new int[0];

        State copy() {
            State s = new State();
            s.hour = hour;
            s.held = held.clone();
            s.cut = cut.clone();
            s.on = on.clone();
            s.wet = wet.clone();
            s.pegs = pegs.clone();
            s.air = air.clone();
            return s;
        }
    }

    /** A view of one family on one line. */
    record View(Told told, State s, int family, int line, boolean rain) { }

    interface Sum {
        long of(View v);
    }

    interface Test {
        boolean of(View v);
    }

    record Claim(Sum sum, Test test) { }

    record Image(Told told, State s, List<State> past, List<Log> logs, int force, int x) { }

    private byte[] tape = new byte[0];
    private Told told;
    private State s = new State();
    private List<State> past = new ArrayList<>();
    private List<Log> logs = new ArrayList<>();
    private final List<List<Claim>> rules = new ArrayList<>();
    private int force = -1;
    private int x;
    private final Image[] images = new Image[4];

    // ---- the tape and its tokens

    int feed(int a, int b, int c, int d, int e) {
        if (tape.length + 20 > 400) {
            return -1;
        }
        byte[] more = Arrays.copyOf(tape, tape.length + 20);
        int at = tape.length;
        for (int v : new int[] {a, b, c, d, e}) {
            more[at++] = (byte) (v >> 24);
            more[at++] = (byte) (v >> 16);
            more[at++] = (byte) (v >> 8);
            more[at++] = (byte) v;
        }
        tape = more;
        return tape.length;
    }

    int end(int n) {
        if (n < 0 || n > tape.length) {
            return -1;
        }
        tape = Arrays.copyOf(tape, n);
        return n;
    }

    private static List<Token> tokens(byte[] tape) {
        String t = new String(tape, java.nio.charset.StandardCharsets.ISO_8859_1);
        var m = java.util.regex.Pattern.compile("[a-z]+|[0-9]+|<=|>=|[^ ]", java.util.regex.Pattern.DOTALL).matcher(t);
        List<Token> list = new ArrayList<>();
        while (m.find()) {
            list.add(new Token(m.group(), m.start()));
        }
        list.add(new Token("", t.length()));
        return list;
    }

    /** Reads tokens one by one. */
    static class Reader {
        final List<Token> tokens;
        int at;

        Reader(List<Token> tokens) {
            this.tokens = tokens;
        }

        Token peek() {
            return tokens.get(at);
        }

        boolean is(String text) {
            return peek().text().equals(text);
        }

        Token next() {
            return at < tokens.size() - 1 ? tokens.get(at++) : tokens.get(at);
        }

        void need(String text) {
            if (!is(text)) {
                throw new Fault(peek().place(), 0);
            }
            next();
        }

        boolean isNumber() {
            return peek().text().matches("[0-9]+");
        }

        int number(int low, int high) {
            if (!isNumber()) {
                throw new Fault(peek().place(), 0);
            }
            String digits = peek().text();
            if (digits.length() > 5 || Integer.parseInt(digits) < low || Integer.parseInt(digits) > high) {
                throw new Fault(peek().place(), 1);
            }
            next();
            return Integer.parseInt(digits);
        }
    }

    int court() {
        try {
            Told t = readCourt(new Reader(tokens(tape)));
            told = t;
            s = t.begin.copy();
            past = new ArrayList<>();
            logs = new ArrayList<>();
            return t.lines.size();
        } catch (Fault f) {
            return -2 - f.code;
        } finally {
            tape = new byte[0];
        }
    }

    private static int[] with(int[] row, int more) {
        int[] longer = Arrays.copyOf(row, row.length + 1);
        longer[row.length] = more;
        return longer;
    }

    private static Told readCourt(Reader r) {
        Told t = new Told();
        boolean court = false;
        int clauses = 0;
        while (true) {
            Token word = r.peek();
            boolean known = List.of("court", "family", "line", "linen", "hung", "rain").contains(word.text());
            if (!known) {
                throw new Fault(word.place(), 0);
            }
            boolean many = ++clauses > 40 || court == word.text().equals("court")
                || word.text().equals("family") && t.pegs.size() == 4 || word.text().equals("line") && t.lines.size() == 6
                || word.text().equals("linen") && t.linen.size() == 10 || word.text().equals("rain") && t.rains.size() == 3;
            if (many) {
                throw new Fault(word.place(), 4);
            }
            r.next();
            State b = t.begin;
            switch (word.text()) {
                case "court" -> {
                    t.sun = r.number(1, 5);
                    t.soak = r.number(1, 20);
                    court = true;
                }
                case "family" -> {
                    t.pegs.add(r.number(0, 20));
                    b.pegs = with(b.pegs, t.pegs.get(t.pegs.size() - 1));
                    b.air = with(b.air, 0);
                }
                case "line" -> {
                    int one = r.number(0, 7);
                    int place = r.peek().place();
                    int two = r.number(0, 7);
                    if (one == two) {
                        throw new Fault(place, 1);
                    }
                    t.lines.add(new Line(one, two, r.number(1, 9), r.number(1, 99)));
                    b.held = with(b.held, -1);
                    b.cut = Arrays.copyOf(b.cut, b.cut.length + 1);
                }
                case "linen" -> {
                    t.linen.add(new Linen(r.number(0, t.pegs.size() - 1), r.number(1, 4), r.number(0, 20)));
                    b.on = with(b.on, -1);
                    b.wet = with(b.wet, t.linen.get(t.linen.size() - 1).wet());
                }
                case "hung" -> {
                    int linen = r.number(0, t.linen.size() - 1);
                    int place = r.peek().place();
                    int line = r.number(0, t.lines.size() - 1);
                    if (!hang(t, b, linen, line)) {
                        throw new Fault(place, 1);
                    }
                }
                default -> {
                    int first = r.number(0, 99);
                    t.rains.add(new int[] {first, r.number(first, 99)});
                }
            }
            if (r.is("")) {
                return t;
            }
            r.need(";");
        }
    }

    // ---- the rules

    int rule() {
        if (rules.size() == 6) {
            return -1;
        }
        try {
            rules.add(new RuleReader(tokens(tape)).read());
            return rules.size() - 1;
        } catch (Fault f) {
            return -2 - f.code;
        } finally {
            tape = new byte[0];
        }
    }

    static final class RuleReader extends Reader {
        private int things;

        RuleReader(List<Token> tokens) {
            super(tokens);
        }

        List<Claim> read() {
            List<Claim> claims = new ArrayList<>();
            while (true) {
                Token word = peek();
                if (is("claim") && claims.size() == 12) {
                    throw new Fault(word.place(), 4);
                }
                need("claim");
                Sum sum = sum();
                Test test = v -> true;
                if (is("if")) {
                    next();
                    test = test(0);
                }
                claims.add(new Claim(sum, test));
                if (is("")) {
                    return claims;
                }
                need(";");
            }
        }

        private Test test(int deep) {
            Test left = part(deep);
            while (is("or")) {
                next();
                Test one = left;
                Test two = part(deep);
                left = v -> one.of(v) || two.of(v);
            }
            return left;
        }

        private Test part(int deep) {
            Test left = fact(deep);
            while (is("and")) {
                next();
                Test one = left;
                Test two = fact(deep);
                left = v -> one.of(v) && two.of(v);
            }
            return left;
        }

        private Test fact(int deep) {
            Token t = peek();
            if (is("not") || is("[")) {
                if (deep == 10) {
                    throw new Fault(t.place(), 2);
                }
                next();
                if (t.text().equals("not")) {
                    Test inner = fact(deep + 1);
                    return v -> !inner.of(v);
                }
                Test inner = test(deep + 1);
                need("]");
                return inner;
            }
            Sum a = sum();
            Token sign = peek();
            if (!List.of("<", "<=", "=", ">=", ">").contains(sign.text())) {
                throw new Fault(sign.place(), 0);
            }
            if (++things > 60) {
                throw new Fault(sign.place(), 3);
            }
            next();
            Sum b = sum();
            return v -> {
                int c = Long.compare(a.of(v), b.of(v));
                return switch (sign.text()) {
                    case "<" -> c < 0;
                    case "<=" -> c <= 0;
                    case "=" -> c == 0;
                    case ">=" -> c >= 0;
                    default -> c > 0;
                };
            };
        }

        private Sum sum() {
            Sum left = term();
            while (is("+") || is("-")) {
                boolean plus = next().text().equals("+");
                Sum one = left;
                Sum two = term();
                left = v -> plus ? one.of(v) + two.of(v) : one.of(v) - two.of(v);
            }
            return left;
        }

        private Sum term() {
            Sum left = value();
            while (is("*") || is("/") || is("%")) {
                String sign = next().text();
                Sum one = left;
                Sum two = value();
                left = v -> {
                    long p = one.of(v);
                    long q = two.of(v);
                    if (sign.equals("*")) {
                        return p * q;
                    }
                    return q == 0 ? 0 : sign.equals("/") ? p / q : p % q;
                };
            }
            return left;
        }

        private Sum value() {
            Token t = peek();
            boolean word = List.of("family", "line", "length", "cells", "wet", "wettest", "all", "others", "held", "pegs",
                "air", "hour", "rain").contains(t.text());
            if (!word && !isNumber()) {
                throw new Fault(t.place(), 0);
            }
            if (!word && t.text().length() > 5) {
                throw new Fault(t.place(), 1);
            }
            if (++things > 60) {
                throw new Fault(t.place(), 3);
            }
            next();
            return word ? v -> worth(t.text(), v) : v -> Long.parseLong(t.text());
        }
    }

    private static long worth(String word, View v) {
        long cells = 0;
        long wet = 0;
        long wettest = 0;
        long all = 0;
        long others = 0;
        for (int i = 0; i < v.s.on.length; i++) {
            Linen l = v.told.linen.get(i);
            if (v.s.on[i] == v.line && l.family() == v.family) {
                cells += l.length();
                wet += v.s.wet[i] > 0 ? l.length() : 0;
                wettest = Math.max(wettest, v.s.wet[i]);
                all += v.s.wet[i];
            } else if (v.s.on[i] == v.line) {
                others += l.length();
            }
        }
        return switch (word) {
            case "family" -> v.family;
            case "line" -> v.line;
            case "length" -> v.told.lines.get(v.line).length();
            case "cells" -> cells;
            case "wet" -> wet;
            case "wettest" -> wettest;
            case "all" -> all;
            case "others" -> others;
            case "held" -> v.s.held[v.line] == v.family ? 1 : 0;
            case "pegs" -> v.s.pegs[v.family];
            case "air" -> v.s.air[v.family];
            case "hour" -> v.s.hour;
            default -> v.rain ? 1 : 0;
        };
    }

    // ---- what passes

    private List<Claim> law(int rule) {
        return rule < 0 ? List.of(new Claim(v -> worth("wet", v), v -> true)) : rules.get(rule);
    }

    private int owner(List<Claim> law, State s, int line, boolean rain) {
        if (s.cut[line]) {
            return -1;
        }
        long[] sums = new long[told.pegs.size()];
        for (int f = 0; f < sums.length; f++) {
            View v = new View(told, s, f, line, rain);
            for (Claim c : law) {
                if (c.test().of(v)) {
                    sums[f] = c.sum().of(v);
                    break;
                }
            }
        }
        for (int f = 0; f < sums.length; f++) {
            boolean ahead = sums[f] > 0;
            for (int g = 0; g < sums.length; g++) {
                ahead &= f == g || sums[f] > sums[g];
            }
            if (ahead) {
                return f;
            }
        }
        return -1;
    }

    private int owner(State s, int line) {
        return owner(law(force), s, line, told.rain(s.hour));
    }

    private State after(List<Claim> law, State before, boolean drawn) {
        State s = before.copy();
        boolean rain = drawn || told.rain(s.hour);
        for (int l = 0; l < s.held.length; l++) {
            s.held[l] = owner(law, before, l, rain);
            if (s.held[l] >= 0) {
                s.air[s.held[l]] += told.lines.get(l).length();
            }
        }
        for (int i = 0; i < s.on.length; i++) {
            if (s.on[i] >= 0) {
                s.wet[i] = rain ? Math.max(s.wet[i], told.soak) : Math.max(0, s.wet[i] - told.sun);
            }
        }
        s.hour++;
        return s;
    }

    private State after(List<Claim> law, State s, int n) {
        State t = s;
        for (int i = 0; i < n; i++) {
            t = after(law, t, false);
        }
        return t;
    }

    private static int left(Told t, State s, int line) {
        int left = t.lines.get(line).length();
        for (int i = 0; i < s.on.length; i++) {
            left -= s.on[i] == line ? t.linen.get(i).length() : 0;
        }
        return left;
    }

    private static boolean hang(Told t, State s, int linen, int line) {
        if (linen < 0 || linen >= s.on.length || line < 0 || line >= s.held.length) {
            return false;
        }
        Linen l = t.linen.get(linen);
        if (s.on[linen] >= 0 || s.cut[line] || left(t, s, line) < l.length() || s.pegs[l.family()] < 2) {
            return false;
        }
        s.on[linen] = line;
        s.pegs[l.family()] -= 2;
        return true;
    }

    private void down(State s, int linen) {
        s.on[linen] = -1;
        s.pegs[told.linen.get(linen).family()] += 2;
    }

    private boolean isFamily(int f) {
        return f >= 0 && f < s.pegs.length;
    }

    private boolean isLine(int l) {
        return l >= 0 && l < s.held.length;
    }

    private boolean isLinen(int i) {
        return i >= 0 && i < s.on.length;
    }

    private void act(State then) {
        past.add(s);
        if (past.size() > 20) {
            past.remove(0);
        }
        s = then;
    }

    int force(int rule) {
        if (rule < -1 || rule >= rules.size()) {
            return -2;
        }
        int was = force;
        force = rule;
        return was;
    }

    int family(int f, int what) {
        if (!isFamily(f) || what < 0 || what > 3) {
            return -1;
        }
        int lines = 0;
        int linen = 0;
        for (int l = 0; l < s.held.length; l++) {
            lines += owner(s, l) == f ? 1 << l : 0;
        }
        for (int i = 0; i < s.on.length; i++) {
            linen += told.linen.get(i).family() == f ? 1 << i : 0;
        }
        return new int[] {s.pegs[f], s.air[f], lines, linen}[what];
    }

    int line(int l, int what) {
        if (!isLine(l) || what < 0 || what > 8) {
            return -2;
        }
        Line t = told.lines.get(l);
        int on = 0;
        for (int i = 0; i < s.on.length; i++) {
            on += s.on[i] == l ? 1 << i : 0;
        }
        return new int[] {t.a(), t.b(), t.length(), t.strength(), left(told, s, l), on, owner(s, l), s.held[l],
            s.cut[l] ? 1 : 0}[what];
    }

    int linen(int i, int what) {
        if (!isLinen(i) || what < 0 || what > 3) {
            return -2;
        }
        Linen t = told.linen.get(i);
        return new int[] {t.family(), t.length(), s.wet[i], s.on[i]}[what];
    }

    int hour() {
        if (told == null || s.hour == 999) {
            return -1;
        }
        int before = Arrays.stream(s.air).sum();
        act(after(law(force), s, false));
        return Arrays.stream(s.air).sum() - before;
    }

    int hang(int linen, int line) {
        State then = s.copy();
        if (!hang(told, then, linen, line)) {
            return -1;
        }
        act(then);
        return left(told, s, line);
    }

    int take(int linen) {
        if (!isLinen(linen) || s.on[linen] < 0) {
            return -1;
        }
        int line = s.on[linen];
        State then = s.copy();
        down(then, linen);
        act(then);
        return line;
    }

    int wash(int linen) {
        if (!isLinen(linen) || s.on[linen] >= 0 || s.wet[linen] == told.linen.get(linen).wet()) {
            return -1;
        }
        State then = s.copy();
        then.wet[linen] = told.linen.get(linen).wet();
        act(then);
        return s.wet[linen];
    }

    int cut(int line) {
        if (!isLine(line) || s.cut[line]) {
            return -1;
        }
        State then = s.copy();
        int n = 0;
        for (int i = 0; i < then.on.length; i++) {
            if (then.on[i] == line) {
                down(then, i);
                n++;
            }
        }
        then.cut[line] = true;
        then.held[line] = -1;
        act(then);
        return n;
    }

    boolean mend(int line) {
        if (!isLine(line) || !s.cut[line]) {
            return false;
        }
        State then = s.copy();
        then.cut[line] = false;
        act(then);
        return true;
    }

    int undo() {
        if (past.isEmpty()) {
            return -2;
        }
        s = past.remove(past.size() - 1);
        return past.size();
    }

    // ---- what is asked

    int ahead(int number, int n, int what) {
        boolean there = what == 0 ? isLine(number) : what == 1 ? isLinen(number) : what == 2 && isFamily(number);
        if (!there || n < 0 || n > 100) {
            return -2;
        }
        State t = after(law(force), s, n);
        return (what == 0 ? t.held : what == 1 ? t.wet : t.air)[number];
    }

    int dries(int linen) {
        if (!isLinen(linen)) {
            return -1;
        }
        State t = s;
        for (int i = 0; i < 200; i++) {
            if (t.on[linen] >= 0 && t.wet[linen] == 0) {
                return t.hour;
            }
            t = after(law(force), t, false);
        }
        return -2;
    }

    int most(int family, int n, int what) {
        if (!isFamily(family) || n < 1 || n > 12 || what < 0 || what > 4) {
            return -3;
        }
        List<Integer> pieces = new ArrayList<>();
        for (int i = 0; i < s.on.length && pieces.size() < 4; i++) {
            if (told.linen.get(i).family() == family && s.on[i] < 0) {
                pieces.add(i);
            }
        }
        if (what > pieces.size()) {
            return -2;
        }
        int[] best = new int[5];
        best[0] = -1;
        most(family, n, pieces, s, new int[4], 0, best);
        return best[what];
    }

    private void most(int family, int n, List<Integer> pieces, State t, int[] row, int at, int[] best) {
        if (at == pieces.size()) {
            int air = after(law(force), t, n).air[family];
            if (air > best[0]) {
                best[0] = air;
                System.arraycopy(row, 0, best, 1, 4);
            }
            return;
        }
        for (int l = -1; l < s.held.length; l++) {
            State u = t.copy();
            if (l < 0 || hang(told, u, pieces.get(at), l)) {
                row[at] = l;
                most(family, n, pieces, u, row, at + 1, best);
            }
        }
    }

    int game(int one, int other, int n, int what) {
        if (!isFamily(one) || !isFamily(other) || one == other || n < 1 || n > 3 || what < 0 || what > 1) {
            return -100000;
        }
        return play(s, one, other, n, true)[what];
    }

    private int[] play(State t, int one, int other, int n, boolean ones) {
        if (n == 0) {
            return new int[] {t.air[one] - t.air[other], -1};
        }
        int[] best = null;
        for (int act = -1; act < 60; act++) {
            State u = t.copy();
            if (act >= 0) {
                int linen = act % 10;
                boolean may = isLinen(linen) && told.linen.get(linen).family() == (ones ? one : other);
                if (!may || !hang(told, u, linen, act / 10)) {
                    continue;
                }
            }
            int worth = play(after(law(force), u, false), one, other, n - 1, !ones)[0];
            if (best == null || (ones ? worth > best[0] : worth < best[0])) {
                best = new int[] {worth, act};
            }
        }
        return best;
    }

    int free(int line, int what) {
        if (!isLine(line) || what < 0 || what > 1) {
            return -1;
        }
        int best = -1;
        for (int set = 1023; set >= 0; set--) {
            State t = s.copy();
            boolean ok = true;
            for (int i = 0; i < 10; i++) {
                if ((set >> i & 1) == 1) {
                    ok &= isLinen(i) && t.on[i] == line;
                    if (ok) {
                        down(t, i);
                    }
                }
            }
            if (ok && owner(t, line) == -1 && (best < 0 || Integer.bitCount(set) <= Integer.bitCount(best))) {
                best = set;
            }
        }
        return best < 0 ? -2 : what == 0 ? Integer.bitCount(best) : best;
    }

    int few(int family, int line, int what) {
        if (!isFamily(family) || !isLine(line) || what < 0 || what > 1) {
            return -1;
        }
        int best = -1;
        for (int set = 1023; set >= 0; set--) {
            State t = s.copy();
            boolean ok = true;
            for (int i = 0; i < 10 && ok; i++) {
                if ((set >> i & 1) == 1) {
                    ok = isLinen(i) && told.linen.get(i).family() == family && hang(told, t, i, line);
                }
            }
            if (ok && owner(t, line) == family && (best < 0 || Integer.bitCount(set) <= Integer.bitCount(best))) {
                best = set;
            }
        }
        return best < 0 ? -2 : what == 0 ? Integer.bitCount(best) : best;
    }

    int way(int from, int to, int what) {
        if (told == null || from < 0 || from > 7 || to < 0 || to > 7 || what < 0 || what > 1) {
            return -3;
        }
        List<List<Integer>> ways = new ArrayList<>();
        walk(from, to, new ArrayList<>(), 1 << from, ways);
        List<Integer> best = null;
        for (List<Integer> w : ways) {
            if (best == null || compare(w, best) < 0) {
                best = w;
            }
        }
        if (best == null) {
            return -2;
        }
        return what == 0 ? length(best) : best.isEmpty() ? -1 : best.get(0);
    }

    private int length(List<Integer> way) {
        return way.stream().mapToInt(l -> told.lines.get(l).length()).sum();
    }

    private int compare(List<Integer> a, List<Integer> b) {
        if (length(a) != length(b)) {
            return Integer.compare(length(a), length(b));
        }
        if (a.size() != b.size()) {
            return Integer.compare(a.size(), b.size());
        }
        for (int i = 0; i < a.size(); i++) {
            if (!a.get(i).equals(b.get(i))) {
                return Integer.compare(a.get(i), b.get(i));
            }
        }
        return 0;
    }

    private void walk(int at, int to, List<Integer> way, int seen, List<List<Integer>> ways) {
        if (at == to) {
            ways.add(new ArrayList<>(way));
            return;
        }
        for (int l = 0; l < s.held.length; l++) {
            Line t = told.lines.get(l);
            int next = t.a() == at ? t.b() : t.b() == at ? t.a() : -1;
            if (!s.cut[l] && next >= 0 && (seen >> next & 1) == 0) {
                way.add(l);
                walk(next, to, way, seen | 1 << next, ways);
                way.remove(way.size() - 1);
            }
        }
    }

    private int load(int line, int force) {
        int load = 0;
        for (int i = 0; i < s.on.length; i++) {
            load += s.on[i] == line ? s.wet[i] + told.linen.get(i).length() * force : 0;
        }
        return load;
    }

    int bears(int line) {
        if (!isLine(line)) {
            return -2;
        }
        for (int f = 99; f >= 0; f--) {
            if (load(line, f) <= told.lines.get(line).strength()) {
                return f;
            }
        }
        return -1;
    }

    int storm(int f) {
        if (told == null || f < 0 || f > 99) {
            return -1;
        }
        int bits = 0;
        for (int l = 0; l < s.held.length; l++) {
            bits += !s.cut[l] && bears(l) < f ? 1 << l : 0;
        }
        return bits;
    }

    int worth(int linen, int n) {
        if (!isLinen(linen) || s.on[linen] < 0 || n < 1 || n > 60) {
            return -100000;
        }
        int f = told.linen.get(linen).family();
        State without = s.copy();
        down(without, linen);
        return after(law(force), s, n).air[f] - after(law(force), without, n).air[f];
    }

    int log(int n, int line, int family) {
        if (n == -1) {
            logs = new ArrayList<>();
            return 0;
        }
        if (n < 0 || n > 60 || !isLine(line) || family != -1 && !isFamily(family) || logs.size() == 10) {
            return -2;
        }
        logs = new ArrayList<>(logs);
        logs.add(new Log(n, line, family));
        return logs.size();
    }

    /** Who would hold a line by a rule behind an hour of all: for logs that are so. */
    int holder(int rule, int n, int line) {
        boolean there = n >= 0 && n <= 60 && isLine(line) && rule >= -1 && rule < rules.size();
        return there ? after(law(rule), told.begin, n + 1).held[line] : -1;
    }

    private List<Integer> fitting() {
        List<Integer> fit = new ArrayList<>();
        for (int r = -1; r < rules.size(); r++) {
            int rule = r;
            if (logs.stream().allMatch(g -> after(law(rule), told.begin, g.n() + 1).held[g.line()] == g.family())) {
                fit.add(r);
            }
        }
        return fit;
    }

    int ruled(int what) {
        if (told == null || what < 0 || what > 1) {
            return -3;
        }
        List<Integer> fit = fitting();
        return what == 0 ? fit.size() : fit.isEmpty() ? -2 : fit.get(0);
    }

    int look(int n, int what) {
        if (told == null || n < 0 || n > 60 || what < 0 || what > 1) {
            return -1;
        }
        List<Integer> fit = fitting();
        if (fit.isEmpty() || s.held.length == 0) {
            return -2;
        }
        int[][] held = new int[fit.size()][];
        for (int i = 0; i < held.length; i++) {
            held[i] = after(law(fit.get(i)), told.begin, n + 1).held;
        }
        int best = -1;
        int fewest = 100;
        for (int l = 0; l < s.held.length; l++) {
            int[] groups = new int[5];
            for (int[] h : held) {
                groups[h[l] + 1]++;
            }
            int alike = Arrays.stream(groups).max().getAsInt();
            if (alike < fewest) {
                fewest = alike;
                best = l;
            }
        }
        return what == 0 ? best : fewest;
    }

    int laws(int family, int n, int what) {
        if (!isFamily(family) || n < 1 || n > 60 || what < 0 || what > 1) {
            return -2;
        }
        int best = -1;
        int most = Integer.MIN_VALUE;
        for (int r = -1; r < rules.size(); r++) {
            int more = after(law(r), s, n).air[family] - s.air[family];
            if (more > most) {
                most = more;
                best = r;
            }
        }
        return what == 0 ? best : most;
    }

    int seed(int y) {
        if (y < 0) {
            return -1;
        }
        int was = x;
        x = y;
        return was;
    }

    int years(int m, int n, int p, int what) {
        if (told == null || m < 1 || m > 10 || n < 1 || n > 60 || p < 0 || p > 100 || what < 0 || what > 1) {
            return -1;
        }
        var z = java.math.BigInteger.valueOf(x);
        int got = 0;
        int dry = 0;
        for (int year = 0; year < m; year++) {
            State t = s;
            for (int h = 0; h < n; h++) {
                z = z.multiply(java.math.BigInteger.valueOf(1103515245)).add(java.math.BigInteger.valueOf(12345))
                    .mod(java.math.BigInteger.ONE.shiftLeft(31));
                t = after(law(force), t, z.intValue() / 65536 % 100 < p);
            }
            got += Arrays.stream(t.air).sum() - Arrays.stream(s.air).sum();
            for (int i = 0; i < t.on.length; i++) {
                dry += t.on[i] >= 0 && t.wet[i] == 0 ? 1 : 0;
            }
        }
        return what == 0 ? got : dry;
    }

    int count(int what) {
        int up = 0;
        int cuts = 0;
        for (int i = 0; i < s.on.length; i++) {
            up += s.on[i] >= 0 ? 1 << i : 0;
        }
        for (int l = 0; l < s.cut.length; l++) {
            cuts += s.cut[l] ? 1 << l : 0;
        }
        int[] all = {told == null ? 0 : told.sun, told == null ? 0 : told.soak, s.pegs.length, s.held.length, s.on.length,
            rules.size(), force, s.hour, up, cuts, told != null && told.rain(s.hour) ? 1 : 0, logs.size(), past.size(), x,
            tape.length};
        return what < 0 || what >= all.length ? -1 : all[what];
    }

    int image(int k) {
        if (k < 0 || k > 3) {
            return -1;
        }
        images[k] = new Image(told, s, new ArrayList<>(past), logs, force, x);
        return s.hour;
    }

    int back(int k) {
        if (k < 0 || k > 3 || images[k] == null) {
            return -1;
        }
        Image i = images[k];
        told = i.told();
        s = i.s();
        past = new ArrayList<>(i.past());
        logs = i.logs();
        force = i.force();
        x = i.x();
        return s.hour;
    }
}
