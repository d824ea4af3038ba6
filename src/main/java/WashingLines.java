/** Washing lines as frontiers: a court told in a language, its laws, its hours, and what is asked of them. */
public final class WashingLines {
    public static final int NONE = -1;

    // What calls answer where what they ask for is not there; the document tells which call answers which.
    private static final int ABSENT = -2;
    private static final int UNASKED = -3;
    private static final int FAR_BELOW = -100000;

    private static final int FAMILIES = 4;
    private static final int LINES = 6;
    private static final int LINENS = 10;
    private static final int RAINS = 3;
    private static final int RULES = 6;
    private static final int LOGS = 10;
    private static final int IMAGES = 4;
    private static final int UNDOS = 20;
    private static final int POLES = 8;
    private static final int TAPE_BYTES = 400;
    private static final int FED_BYTES = 20;
    private static final int COURT_CLAUSES = 40;
    private static final int RULE_CLAUSES = 12;
    private static final int DEEPEST = 10;
    private static final int PARTS = 60;
    private static final int DIGITS = 5;
    private static final int LAST_HOUR = 999;
    private static final int LAST_LOGGED = 60;
    private static final int LONGEST = 60;
    private static final int DRYING_HOURS = 200;
    private static final int STRONGEST = 99;
    private static final int PEGS_A_PIECE = 2;
    private static final int PLACED = 4;
    private static final int TURNS = 3;

    // What the bytes of a text are read as. A sign of one byte is its own kind.
    private static final int END = 0;
    private static final int WRONG = 1;
    private static final int NUMBER = 2;
    private static final int AT_MOST = 3;
    private static final int AT_LEAST = 4;
    private static final String SIGNS = ";+-*/%<=>[]";
    // The words stand in the order of their kinds; each ends with a blank.
    private static final String WORDS =
        "family line length cells wet wettest all others held pegs air hour rain claim if and or not court linen hung ";
    private static final int FAMILY = 256;
    private static final int LINE = 257;
    private static final int LENGTH = 258;
    private static final int CELLS = 259;
    private static final int WET = 260;
    private static final int WETTEST = 261;
    private static final int ALL = 262;
    private static final int OTHERS = 263;
    private static final int HELD = 264;
    private static final int PEGS = 265;
    private static final int AIR = 266;
    private static final int HOUR = 267;
    private static final int RAIN = 268;
    private static final int CLAIM = 269;
    private static final int IF = 270;
    private static final int AND = 271;
    private static final int OR = 272;
    private static final int NOT = 273;
    private static final int COURT = 274;
    private static final int LINEN = 275;
    private static final int HUNG = 276;

    private static final int CANNOT_STAND = 0;
    private static final int NOT_AS_TOLD = 1;
    private static final int TOO_DEEP = 2;
    private static final int PART_TOO_MANY = 3;
    private static final int CLAUSE_TOO_MANY = 4;

    private final Text text = new Text();
    private final CourtReader courtReader = new CourtReader();
    private final RuleReader ruleReader = new RuleReader();
    private final Book book = new Book();
    private final World world = new World();
    // An image that was never made is null.
    private final World[] images = new World[IMAGES];
    private final Hours hours = new Hours();
    private final Seeker seeker = new Seeker();
    private final Trials trials = new Trials();

    public WashingLines() {
    }

    public int feed(int a, int b, int c, int d, int e) {
        if (!text.hasRoom(FED_BYTES)) {
            return NONE;
        }
        text.append(a);
        text.append(b);
        text.append(c);
        text.append(d);
        text.append(e);
        return text.size;
    }

    public int end(int n) {
        if (n < 0 || n > text.size) {
            return NONE;
        }
        text.size = n;
        return n;
    }

    public int court() {
        int fault = courtReader.read(text);
        text.size = 0;
        if (fault != 0) {
            return -2 - fault;
        }
        world.settle(courtReader.draft);
        return world.court.lines;
    }

    public int rule() {
        if (book.isFull()) {
            return NONE;
        }
        int fault = ruleReader.read(text);
        text.size = 0;
        return fault != 0 ? -2 - fault : book.write(ruleReader.draft);
    }

    public int force(int rule) {
        if (rule != NONE && !book.isRule(rule)) {
            return ABSENT;
        }
        int before = world.force;
        world.force = rule;
        return before;
    }

    public int family(int family, int what) {
        if (!world.court.isFamily(family)) {
            return NONE;
        }
        switch (what) {
            case 0: return world.now.pegs[family];
            case 1: return world.now.air[family];
            case 2: return linesOf(family);
            case 3: return world.court.linenOf(family);
            default: return NONE;
        }
    }

    public int line(int line, int what) {
        Court court = world.court;
        Yard now = world.now;
        if (!court.isLine(line)) {
            return ABSENT;
        }
        switch (what) {
            case 0: return court.poleA[line];
            case 1: return court.poleB[line];
            case 2: return court.length[line];
            case 3: return court.strength[line];
            case 4: return now.lengthLeft(court, line);
            case 5: return now.linenOn(line);
            case 6: return ownerNow(line);
            case 7: return now.held[line];
            case 8: return now.cut[line];
            default: return ABSENT;
        }
    }

    public int linen(int linen, int what) {
        Court court = world.court;
        if (!court.isLinen(linen)) {
            return ABSENT;
        }
        switch (what) {
            case 0: return court.linenFamily[linen];
            case 1: return court.linenLength[linen];
            case 2: return world.now.wet[linen];
            case 3: return world.now.on[linen];
            default: return ABSENT;
        }
    }

    public int hour() {
        if (!world.court.told || world.now.hour >= LAST_HOUR) {
            return NONE;
        }
        world.keepPast();
        startNow();
        int got = hours.pass(false);
        world.now.copyFrom(hours.yard);
        return got;
    }

    public int hang(int linen, int line) {
        if (!world.now.mayHang(world.court, linen, line)) {
            return NONE;
        }
        world.keepPast();
        world.now.putUp(world.court, linen, line);
        return world.now.lengthLeft(world.court, line);
    }

    public int take(int linen) {
        if (!world.hangs(linen)) {
            return NONE;
        }
        world.keepPast();
        int line = world.now.on[linen];
        world.now.takeDown(world.court, linen);
        return line;
    }

    public int wash(int linen) {
        if (!world.court.isLinen(linen) || world.hangs(linen)) {
            return NONE;
        }
        int told = world.court.linenWet[linen];
        if (world.now.wet[linen] == told) {
            return NONE;
        }
        world.keepPast();
        world.now.wet[linen] = told;
        return told;
    }

    public int cut(int line) {
        if (!world.court.isLine(line) || world.now.cut[line] != 0) {
            return NONE;
        }
        world.keepPast();
        return world.now.cutDown(world.court, line);
    }

    public boolean mend(int line) {
        if (!world.court.isLine(line) || world.now.cut[line] == 0) {
            return false;
        }
        world.keepPast();
        world.now.cut[line] = 0;
        return true;
    }

    public int undo() {
        return world.giveBackPast() ? world.undoable : ABSENT;
    }

    public int ahead(int number, int n, int what) {
        Court court = world.court;
        boolean there = what == 0 && court.isLine(number) || what == 1 && court.isLinen(number)
            || what == 2 && court.isFamily(number);
        if (!there || n < 0 || n > 100) {
            return ABSENT;
        }
        startNow();
        hours.passMany(n);
        if (what == 0) {
            return hours.yard.held[number];
        }
        return what == 1 ? hours.yard.wet[number] : hours.yard.air[number];
    }

    public int dries(int linen) {
        if (!world.court.isLinen(linen)) {
            return NONE;
        }
        startNow();
        for (int n = 0; n < DRYING_HOURS; n++) {
            if (hours.yard.isDryUp(linen)) {
                return hours.yard.hour;
            }
            hours.pass(false);
        }
        return ABSENT;
    }

    public int most(int family, int n, int what) {
        if (!world.court.isFamily(family) || n < 1 || n > 12 || what < 0 || what > PLACED) {
            return UNASKED;
        }
        startNow();
        seeker.seekMost(hours, world.now, family, n);
        return what == 0 ? seeker.best : seeker.placedAt(what - 1);
    }

    public int game(int one, int other, int n, int what) {
        boolean two = world.court.isFamily(one) && world.court.isFamily(other) && one != other;
        if (!two || n < 1 || n > TURNS || what < 0 || what > 1) {
            return FAR_BELOW;
        }
        startNow();
        seeker.seekAct(hours, one, other, n);
        return what == 0 ? seeker.best : seeker.firstAct;
    }

    public int free(int line, int what) {
        if (!world.court.isLine(line) || what < 0 || what > 1) {
            return NONE;
        }
        startNow();
        return sizeOrSet(seeker.leastSet(hours, world.now, line, NONE), what);
    }

    public int few(int family, int line, int what) {
        if (!world.court.isFamily(family) || !world.court.isLine(line) || what < 0 || what > 1) {
            return NONE;
        }
        startNow();
        return sizeOrSet(seeker.leastSet(hours, world.now, line, family), what);
    }

    public int way(int from, int to, int what) {
        boolean poles = from >= 0 && from < POLES && to >= 0 && to < POLES;
        if (!world.court.told || !poles || what < 0 || what > 1) {
            return UNASKED;
        }
        return seeker.seekWay(world.court, world.now, from, to) ? (what == 0 ? seeker.best : seeker.firstLine) : ABSENT;
    }

    public int bears(int line) {
        if (!world.court.isLine(line)) {
            return ABSENT;
        }
        int borne = NONE;
        for (int force = 0; force <= STRONGEST && world.now.bearsForce(world.court, line, force); force++) {
            borne = force;
        }
        return borne;
    }

    public int storm(int force) {
        if (!world.court.told || force < 0 || force > STRONGEST) {
            return NONE;
        }
        int torn = 0;
        for (int line = 0; line < LINES; line++) {
            if (world.court.isLine(line) && world.now.cut[line] == 0 && !world.now.bearsForce(world.court, line, force)) {
                torn |= 1 << line;
            }
        }
        return torn;
    }

    public int worth(int linen, int n) {
        if (!world.hangs(linen) || n < 1 || n > LONGEST) {
            return FAR_BELOW;
        }
        int family = world.court.linenFamily[linen];
        startNow();
        hours.passMany(n);
        int with = hours.yard.airOf(family);
        startNow();
        hours.yard.takeDown(world.court, linen);
        hours.passMany(n);
        return with - hours.yard.airOf(family);
    }

    public int log(int n, int line, int family) {
        if (n == NONE) {
            world.logs = 0;
            return 0;
        }
        boolean somebody = family == NONE || world.court.isFamily(family);
        if (n < 0 || n > LAST_LOGGED || !world.court.isLine(line) || !somebody || world.logs >= LOGS) {
            return ABSENT;
        }
        world.addLog(n, line, family);
        return world.logs;
    }

    public int ruled(int what) {
        if (!world.court.told || what < 0 || what > 1) {
            return UNASKED;
        }
        trials.tryAll(hours, world, book, 0);
        if (what == 0) {
            return trials.fitting;
        }
        return trials.fitting == 0 ? ABSENT : trials.first;
    }

    public int look(int n, int what) {
        if (!world.court.told || n < 0 || n > LAST_LOGGED || what < 0 || what > 1) {
            return NONE;
        }
        trials.tryAll(hours, world, book, n);
        if (trials.fitting == 0 || world.court.lines == 0) {
            return ABSENT;
        }
        int line = trials.bestLook(world.court);
        return what == 0 ? line : trials.mostAlike(line);
    }

    public int laws(int family, int n, int what) {
        if (!world.court.isFamily(family) || n < 1 || n > LONGEST || what < 0 || what > 1) {
            return ABSENT;
        }
        int best = NONE;
        int most = NONE;
        for (int rule = NONE; rule < book.rules; rule++) {
            hours.start(world.court, book.lawOf(rule), world.now);
            hours.passMany(n);
            if (hours.yard.airOf(family) > most) {
                most = hours.yard.airOf(family);
                best = rule;
            }
        }
        return what == 0 ? best : most - world.now.airOf(family);
    }

    public int seed(int x) {
        if (x < 0) {
            return NONE;
        }
        int before = world.x;
        world.x = x;
        return before;
    }

    public int years(int m, int n, int p, int what) {
        boolean asked = m >= 1 && m <= 10 && n >= 1 && n <= LONGEST && p >= 0 && p <= 100 && what >= 0 && what <= 1;
        if (!world.court.told || !asked) {
            return NONE;
        }
        long x = world.x;
        int got = 0;
        int dry = 0;
        for (int year = 0; year < m; year++) {
            startNow();
            for (int hour = 0; hour < n; hour++) {
                x = (x * 1103515245L + 12345L) % 2147483648L;
                got += hours.pass(x / 65536L % 100L < p);
            }
            dry += hours.dryUp();
        }
        return what == 0 ? got : dry;
    }

    public int count(int what) {
        Court court = world.court;
        switch (what) {
            case 0: return court.sun;
            case 1: return court.soak;
            case 2: return court.families;
            case 3: return court.lines;
            case 4: return court.linens;
            case 5: return book.rules;
            case 6: return world.force;
            case 7: return world.now.hour;
            case 8: return world.now.linenUp();
            case 9: return world.now.linesCut();
            case 10: return court.isRainAt(world.now.hour) ? 1 : 0;
            case 11: return world.logs;
            case 12: return world.undoable;
            case 13: return world.x;
            case 14: return text.size;
            default: return NONE;
        }
    }

    public int image(int k) {
        if (k < 0 || k >= IMAGES) {
            return NONE;
        }
        World made = images[k];
        if (made == null) {
            made = new World();
            images[k] = made;
        }
        made.copyFrom(world);
        return world.now.hour;
    }

    public int back(int k) {
        World made = k >= 0 && k < IMAGES ? images[k] : null;
        if (made == null) {
            return NONE;
        }
        world.copyFrom(made);
        return world.now.hour;
    }

    /** Lays out a yard of trial hours from now on, by the rule in force. */
    private void startNow() {
        hours.start(world.court, book.lawOf(world.force), world.now);
    }

    private int ownerNow(int line) {
        startNow();
        hours.measure(false);
        return hours.ownerOf(line);
    }

    private int linesOf(int family) {
        startNow();
        hours.measure(false);
        int bits = 0;
        for (int line = 0; line < LINES; line++) {
            if (hours.ownerOf(line) == family) {
                bits |= 1 << line;
            }
        }
        return bits;
    }

    private static int sizeOrSet(int set, int what) {
        if (set == NONE) {
            return ABSENT;
        }
        return what == 0 ? Integer.bitCount(set) : set;
    }

    /** The tape, and the tokens it is split into. Behind a fault every token is the end, so that reading stops. */
    private static final class Text {
        final int[] bytes = new int[TAPE_BYTES];
        int size;
        private final int[] kinds = new int[TAPE_BYTES + 1];
        private final int[] places = new int[TAPE_BYTES + 1];
        private final int[] values = new int[TAPE_BYTES + 1];
        private int tokens;
        private int at;
        int fault;

        boolean hasRoom(int more) {
            return size + more <= bytes.length;
        }

        void append(int number) {
            for (int shift = 24; shift >= 0; shift -= 8) {
                if (size >= 0 && size < bytes.length) {
                    bytes[size] = (number >>> shift) & 255;
                    size++;
                }
            }
        }

        void split() {
            tokens = 0;
            at = 0;
            fault = 0;
            int i = 0;
            for (int n = 0; n < TAPE_BYTES && i < size; n++) {
                i += splitAt(i);
            }
            addToken(END, size, 0);
        }

        int kind() {
            return fault == 0 && at >= 0 && at < kinds.length ? kinds[at] : END;
        }

        int place() {
            return at >= 0 && at < places.length ? places[at] : 0;
        }

        int value() {
            return at >= 0 && at < values.length ? values[at] : NONE;
        }

        void step() {
            if (at < tokens - 1) {
                at++;
            }
        }

        void expect(int kind) {
            if (kind() == kind) {
                step();
            } else {
                refuse(CANNOT_STAND);
            }
        }

        /** Refuses the token that is to be read next. */
        void refuse(int why) {
            if (fault == 0 && at >= 0 && at < places.length) {
                fault = 1 + 8 * places[at] + why;
            }
        }

        void refuseAt(int place, int why) {
            if (fault == 0) {
                fault = 1 + 8 * place + why;
            }
        }

        /** A number of the court, which must lie within two others. */
        int numberWithin(int low, int high) {
            if (kind() != NUMBER) {
                refuse(CANNOT_STAND);
                return NONE;
            }
            int value = value();
            if (value < low || value > high) {
                refuse(NOT_AS_TOLD);
                return NONE;
            }
            step();
            return value;
        }

        /** How many bytes go into the token, or the blank, at a place. */
        private int splitAt(int from) {
            int sign = byteAt(from);
            if (sign == ' ') {
                return 1;
            }
            if (isDigit(sign)) {
                return splitNumber(from);
            }
            return isLetter(sign) ? splitWord(from) : splitSign(from);
        }

        private int splitNumber(int from) {
            int value = 0;
            int length = 0;
            for (int i = from; i < size && isDigit(byteAt(i)); i++) {
                length++;
                value = length > DIGITS ? NONE : value * 10 + byteAt(i) - '0';
            }
            addToken(NUMBER, from, value);
            return length;
        }

        private int splitWord(int from) {
            int length = 0;
            for (int i = from; i < size && isLetter(byteAt(i)); i++) {
                length++;
            }
            addToken(wordKind(from, length), from, 0);
            return length;
        }

        private int splitSign(int from) {
            int sign = byteAt(from);
            if (byteAt(from + 1) == '=' && (sign == '<' || sign == '>')) {
                addToken(sign == '<' ? AT_MOST : AT_LEAST, from, 0);
                return 2;
            }
            addToken(SIGNS.indexOf((char) sign) >= 0 ? sign : WRONG, from, 0);
            return 1;
        }

        private int wordKind(int from, int length) {
            int kind = FAMILY;
            int begin = 0;
            for (int i = 0; i < WORDS.length(); i++) {
                if (WORDS.charAt(i) == ' ') {
                    if (i - begin == length && isWordAt(begin, from, length)) {
                        return kind;
                    }
                    kind++;
                    begin = i + 1;
                }
            }
            return WRONG;
        }

        private boolean isWordAt(int begin, int from, int length) {
            for (int i = 0; i < length; i++) {
                boolean there = begin + i < WORDS.length() && from + i < bytes.length;
                if (!there || WORDS.charAt(begin + i) != bytes[from + i]) {
                    return false;
                }
            }
            return true;
        }

        private int byteAt(int i) {
            return i >= 0 && i < size && i < bytes.length ? bytes[i] : 0;
        }

        private void addToken(int kind, int place, int value) {
            if (tokens >= 0 && tokens < kinds.length) {
                kinds[tokens] = kind;
                places[tokens] = place;
                values[tokens] = value;
                tokens++;
            }
        }

        private static boolean isDigit(int sign) {
            return sign >= '0' && sign <= '9';
        }

        private static boolean isLetter(int sign) {
            return sign >= 'a' && sign <= 'z';
        }
    }

    /** What the text of a court tells, and the yard as it is at the begin. */
    private static final class Court {
        boolean told;
        int sun;
        int soak;
        int families;
        int lines;
        int linens;
        int rains;
        final int[] poleA = new int[LINES];
        final int[] poleB = new int[LINES];
        final int[] length = new int[LINES];
        final int[] strength = new int[LINES];
        final int[] linenFamily = new int[LINENS];
        final int[] linenLength = new int[LINENS];
        final int[] linenWet = new int[LINENS];
        final int[] rainFirst = new int[RAINS];
        final int[] rainLast = new int[RAINS];
        final Yard begin = new Yard();

        void clear() {
            told = false;
            sun = 0;
            soak = 0;
            families = 0;
            lines = 0;
            linens = 0;
            rains = 0;
            begin.clear();
        }

        void copyFrom(Court other) {
            told = other.told;
            sun = other.sun;
            soak = other.soak;
            families = other.families;
            lines = other.lines;
            linens = other.linens;
            rains = other.rains;
            System.arraycopy(other.poleA, 0, poleA, 0, LINES);
            System.arraycopy(other.poleB, 0, poleB, 0, LINES);
            System.arraycopy(other.length, 0, length, 0, LINES);
            System.arraycopy(other.strength, 0, strength, 0, LINES);
            System.arraycopy(other.linenFamily, 0, linenFamily, 0, LINENS);
            System.arraycopy(other.linenLength, 0, linenLength, 0, LINENS);
            System.arraycopy(other.linenWet, 0, linenWet, 0, LINENS);
            System.arraycopy(other.rainFirst, 0, rainFirst, 0, RAINS);
            System.arraycopy(other.rainLast, 0, rainLast, 0, RAINS);
            begin.copyFrom(other.begin);
        }

        boolean isFamily(int family) {
            return family >= 0 && family < families && family < FAMILIES;
        }

        boolean isLine(int line) {
            return line >= 0 && line < lines && line < LINES;
        }

        boolean isLinen(int linen) {
            return linen >= 0 && linen < linens && linen < LINENS;
        }

        int linenOf(int family) {
            int bits = 0;
            for (int linen = 0; linen < LINENS; linen++) {
                if (linen < linens && linenFamily[linen] == family) {
                    bits |= 1 << linen;
                }
            }
            return bits;
        }

        boolean isRainAt(int hour) {
            for (int rain = 0; rain < RAINS; rain++) {
                if (rain < rains && hour >= rainFirst[rain] && hour <= rainLast[rain]) {
                    return true;
                }
            }
            return false;
        }
    }

    /** What hours and hands change in a court. */
    private static final class Yard {
        int hour;
        final int[] held = new int[LINES];
        final int[] cut = new int[LINES];
        final int[] on = new int[LINENS];
        final int[] wet = new int[LINENS];
        final int[] pegs = new int[FAMILIES];
        final int[] air = new int[FAMILIES];

        Yard() {
            clear();
        }

        void clear() {
            hour = 0;
            for (int line = 0; line < LINES; line++) {
                held[line] = NONE;
                cut[line] = 0;
            }
            for (int linen = 0; linen < LINENS; linen++) {
                on[linen] = NONE;
                wet[linen] = 0;
            }
            for (int family = 0; family < FAMILIES; family++) {
                pegs[family] = 0;
                air[family] = 0;
            }
        }

        void copyFrom(Yard other) {
            hour = other.hour;
            System.arraycopy(other.held, 0, held, 0, LINES);
            System.arraycopy(other.cut, 0, cut, 0, LINES);
            System.arraycopy(other.on, 0, on, 0, LINENS);
            System.arraycopy(other.wet, 0, wet, 0, LINENS);
            System.arraycopy(other.pegs, 0, pegs, 0, FAMILIES);
            System.arraycopy(other.air, 0, air, 0, FAMILIES);
        }

        boolean mayHang(Court court, int linen, int line) {
            if (!court.isLinen(linen) || !court.isLine(line) || on[linen] != NONE || cut[line] != 0) {
                return false;
            }
            int family = court.linenFamily[linen];
            return court.isFamily(family) && pegs[family] >= PEGS_A_PIECE
                && court.linenLength[linen] <= lengthLeft(court, line);
        }

        void putUp(Court court, int linen, int line) {
            if (mayHang(court, linen, line)) {
                on[linen] = line;
                pegs[court.linenFamily[linen]] -= PEGS_A_PIECE;
            }
        }

        void takeDown(Court court, int linen) {
            if (court.isLinen(linen) && on[linen] != NONE && court.isFamily(court.linenFamily[linen])) {
                on[linen] = NONE;
                pegs[court.linenFamily[linen]] += PEGS_A_PIECE;
            }
        }

        /** Cuts a line and answers how many pieces came down. */
        int cutDown(Court court, int line) {
            int down = 0;
            for (int linen = 0; linen < LINENS; linen++) {
                if (on[linen] == line) {
                    takeDown(court, linen);
                    down++;
                }
            }
            if (court.isLine(line)) {
                cut[line] = 1;
                held[line] = NONE;
            }
            return down;
        }

        int cellsOn(Court court, int line) {
            int cells = 0;
            for (int linen = 0; linen < LINENS; linen++) {
                if (on[linen] == line) {
                    cells += court.linenLength[linen];
                }
            }
            return cells;
        }

        int lengthLeft(Court court, int line) {
            return court.isLine(line) ? court.length[line] - cellsOn(court, line) : 0;
        }

        int linenOn(int line) {
            int bits = 0;
            for (int linen = 0; linen < LINENS; linen++) {
                if (on[linen] == line) {
                    bits |= 1 << linen;
                }
            }
            return bits;
        }

        int linenUp() {
            int bits = 0;
            for (int linen = 0; linen < LINENS; linen++) {
                if (on[linen] != NONE) {
                    bits |= 1 << linen;
                }
            }
            return bits;
        }

        int linesCut() {
            int bits = 0;
            for (int line = 0; line < LINES; line++) {
                bits |= cut[line] << line;
            }
            return bits;
        }

        int airOf(int family) {
            return family >= 0 && family < FAMILIES ? air[family] : 0;
        }

        boolean isDryUp(int linen) {
            return linen >= 0 && linen < LINENS && on[linen] != NONE && wet[linen] == 0;
        }

        boolean bearsForce(Court court, int line, int force) {
            int load = cellsOn(court, line) * force;
            for (int linen = 0; linen < LINENS; linen++) {
                if (on[linen] == line) {
                    load += wet[linen];
                }
            }
            return court.isLine(line) && load <= court.strength[line];
        }
    }

    /** Reads the tape as a court, into a draft. */
    private static final class CourtReader {
        final Court draft = new Court();

        /** The fault of the text, or 0. */
        int read(Text text) {
            draft.clear();
            text.split();
            for (int clauses = 0; clauses <= COURT_CLAUSES && text.fault == 0; clauses++) {
                int word = text.kind();
                if (!opensClause(word)) {
                    text.refuse(CANNOT_STAND);
                } else if (clauses == COURT_CLAUSES || !hasPlace(word)) {
                    text.refuse(CLAUSE_TOO_MANY);
                } else {
                    text.step();
                    readClause(text, word);
                }
                if (text.fault == 0 && text.kind() == END) {
                    return 0;
                }
                text.expect(';');
            }
            return text.fault;
        }

        private static boolean opensClause(int word) {
            return word == COURT || word == FAMILY || word == LINE || word == LINEN || word == HUNG || word == RAIN;
        }

        private boolean hasPlace(int word) {
            switch (word) {
                case COURT: return !draft.told;
                case FAMILY: return draft.told && draft.families < FAMILIES;
                case LINE: return draft.told && draft.lines < LINES;
                case LINEN: return draft.told && draft.linens < LINENS;
                case RAIN: return draft.told && draft.rains < RAINS;
                default: return draft.told;
            }
        }

        private void readClause(Text text, int word) {
            switch (word) {
                case COURT: readCourt(text); break;
                case FAMILY: readFamily(text); break;
                case LINE: readLine(text); break;
                case LINEN: readLinen(text); break;
                case RAIN: readRain(text); break;
                default: readHung(text); break;
            }
        }

        private void readCourt(Text text) {
            draft.sun = text.numberWithin(1, 5);
            draft.soak = text.numberWithin(1, 20);
            draft.told = true;
        }

        private void readFamily(Text text) {
            int pegs = text.numberWithin(0, 20);
            if (draft.families >= 0 && draft.families < FAMILIES) {
                draft.begin.pegs[draft.families] = pegs;
                draft.families++;
            }
        }

        private void readLine(Text text) {
            int poleA = text.numberWithin(0, POLES - 1);
            int place = text.place();
            int poleB = text.numberWithin(0, POLES - 1);
            if (poleA == poleB) {
                text.refuseAt(place, NOT_AS_TOLD);
            }
            int length = text.numberWithin(1, 9);
            int strength = text.numberWithin(1, 99);
            int line = draft.lines;
            if (line >= 0 && line < LINES) {
                draft.poleA[line] = poleA;
                draft.poleB[line] = poleB;
                draft.length[line] = length;
                draft.strength[line] = strength;
                draft.lines++;
            }
        }

        private void readLinen(Text text) {
            int family = text.numberWithin(0, draft.families - 1);
            int length = text.numberWithin(1, 4);
            int wet = text.numberWithin(0, 20);
            int linen = draft.linens;
            if (linen >= 0 && linen < LINENS) {
                draft.linenFamily[linen] = family;
                draft.linenLength[linen] = length;
                draft.linenWet[linen] = wet;
                draft.begin.wet[linen] = wet;
                draft.linens++;
            }
        }

        private void readHung(Text text) {
            int linen = text.numberWithin(0, draft.linens - 1);
            int place = text.place();
            int line = text.numberWithin(0, draft.lines - 1);
            if (draft.begin.mayHang(draft, linen, line)) {
                draft.begin.putUp(draft, linen, line);
            } else {
                text.refuseAt(place, NOT_AS_TOLD);
            }
        }

        private void readRain(Text text) {
            int first = text.numberWithin(0, 99);
            int last = text.numberWithin(first, 99);
            if (draft.rains >= 0 && draft.rains < RAINS) {
                draft.rainFirst[draft.rains] = first;
                draft.rainLast[draft.rains] = last;
                draft.rains++;
            }
        }
    }

    /**
     * A rule, each sum and test behind its parts: a number stands for itself, all else is a token's kind below 0.
     * A clause without a test ends with ';', one with a test with IF.
     */
    private static final class Law {
        final int[] code = new int[TAPE_BYTES];
        int size;
        private final long[] stack = new long[PARTS + 4];
        private int top;

        void add(int op) {
            if (size >= 0 && size < code.length) {
                code[size] = op;
                size++;
            }
        }

        void copyFrom(Law other) {
            size = other.size;
            System.arraycopy(other.code, 0, code, 0, TAPE_BYTES);
        }

        /** The sum that this law gives a family for a line. */
        long sumFor(Hours hours, int family, int line) {
            top = 0;
            for (int i = 0; i < size && i < code.length; i++) {
                int op = code[i];
                if (op >= 0) {
                    push(op);
                } else if (op >= -RAIN && op <= -FAMILY) {
                    push(hours.valueOf(-op, family, line));
                } else if (op == -NOT) {
                    turnTop();
                } else if (op == -';' || op == -IF && stack[1] != 0) {
                    return stack[0];
                } else if (op == -IF) {
                    top = 0;
                } else if (top >= 2 && top <= stack.length) {
                    top--;
                    stack[top - 1] = joined(-op, stack[top - 1], stack[top]);
                }
            }
            return 0;
        }

        private void push(long value) {
            if (top >= 0 && top < stack.length) {
                stack[top] = value;
                top++;
            }
        }

        private void turnTop() {
            if (top >= 1 && top <= stack.length) {
                stack[top - 1] = stack[top - 1] == 0 ? 1 : 0;
            }
        }

        private static long joined(int sign, long a, long b) {
            switch (sign) {
                case '+': return a + b;
                case '-': return a - b;
                case '*': return a * b;
                case '/': return b == 0 ? 0 : a / b;
                case '%': return b == 0 ? 0 : a % b;
                case '<': return a < b ? 1 : 0;
                case AT_MOST: return a <= b ? 1 : 0;
                case '=': return a == b ? 1 : 0;
                case AT_LEAST: return a >= b ? 1 : 0;
                case '>': return a > b ? 1 : 0;
                case AND: return a & b;
                default: return a | b;
            }
        }
    }

    /** Reads the tape as a rule, into a draft. */
    private static final class RuleReader {
        final Law draft = new Law();
        private int parts;

        /** The fault of the text, or 0. */
        int read(Text text) {
            draft.size = 0;
            parts = 0;
            text.split();
            for (int clauses = 0; clauses <= RULE_CLAUSES && text.fault == 0; clauses++) {
                if (clauses == RULE_CLAUSES && text.kind() == CLAIM) {
                    text.refuse(CLAUSE_TOO_MANY);
                }
                text.expect(CLAIM);
                readSum(text);
                if (text.kind() == IF) {
                    text.step();
                    readTest(text, 0);
                    draft.add(-IF);
                } else {
                    draft.add(-';');
                }
                if (text.fault == 0 && text.kind() == END) {
                    return 0;
                }
                text.expect(';');
            }
            return text.fault;
        }

        /** Facts joined by and, and these by or: an or is kept back until all that and binds to it is there. */
        private void readTest(Text text, int depth) {
            boolean orWaits = false;
            readFact(text, depth);
            for (int n = 0; n < PARTS && (text.kind() == AND || text.kind() == OR); n++) {
                boolean isAnd = text.kind() == AND;
                if (!isAnd && orWaits) {
                    draft.add(-OR);
                }
                text.step();
                readFact(text, depth);
                if (isAnd) {
                    draft.add(-AND);
                } else {
                    orWaits = true;
                }
            }
            if (orWaits) {
                draft.add(-OR);
            }
        }

        private void readFact(Text text, int depth) {
            int nots = 0;
            for (; text.kind() == NOT && depth + nots < DEEPEST; nots++) {
                text.step();
            }
            int kind = text.kind();
            if (kind == NOT || kind == '[' && depth + nots >= DEEPEST) {
                text.refuse(TOO_DEEP);
            } else if (kind == '[') {
                text.step();
                readTest(text, depth + nots + 1);
                text.expect(']');
            } else {
                readComparison(text);
            }
            for (int n = 0; n < nots; n++) {
                draft.add(-NOT);
            }
        }

        private void readComparison(Text text) {
            readSum(text);
            int sign = text.kind();
            if (!isComparison(sign)) {
                text.refuse(CANNOT_STAND);
                return;
            }
            if (parts >= PARTS) {
                text.refuse(PART_TOO_MANY);
                return;
            }
            parts++;
            text.step();
            readSum(text);
            draft.add(-sign);
        }

        private void readSum(Text text) {
            readTerm(text);
            for (int n = 0; n < PARTS && (text.kind() == '+' || text.kind() == '-'); n++) {
                int sign = text.kind();
                text.step();
                readTerm(text);
                draft.add(-sign);
            }
        }

        private void readTerm(Text text) {
            int sign = END;
            for (int n = 0; n <= PARTS; n++) {
                int kind = text.kind();
                int value = text.value();
                if (!isValue(kind) || value == NONE || parts >= PARTS) {
                    text.refuse(!isValue(kind) ? CANNOT_STAND : value == NONE ? NOT_AS_TOLD : PART_TOO_MANY);
                    return;
                }
                parts++;
                draft.add(kind == NUMBER ? value : -kind);
                if (sign != END) {
                    draft.add(-sign);
                }
                text.step();
                sign = text.kind();
                if (sign != '*' && sign != '/' && sign != '%') {
                    return;
                }
                text.step();
            }
        }

        private static boolean isValue(int kind) {
            return kind == NUMBER || kind >= FAMILY && kind <= RAIN;
        }

        private static boolean isComparison(int sign) {
            return sign == '<' || sign == AT_MOST || sign == '=' || sign == AT_LEAST || sign == '>';
        }
    }

    /** The rules in their order, and the law that is where no rule is in force. */
    private static final class Book {
        private final Law[] written = new Law[RULES];
        private final Law plain = new Law();
        int rules;

        Book() {
            for (int rule = 0; rule < RULES; rule++) {
                written[rule] = new Law();
            }
            plain.add(-WET);
            plain.add(-';');
        }

        boolean isFull() {
            return rules >= RULES;
        }

        boolean isRule(int rule) {
            return rule >= 0 && rule < rules && rule < RULES;
        }

        Law lawOf(int rule) {
            Law law = isRule(rule) ? written[rule] : plain;
            return law == null ? plain : law;
        }

        int write(Law law) {
            Law blank = rules >= 0 && rules < RULES ? written[rules] : null;
            if (blank == null) {
                return NONE;
            }
            blank.copyFrom(law);
            rules++;
            return rules - 1;
        }
    }

    /** All that an image holds. */
    private static final class World {
        final Court court = new Court();
        final Yard now = new Yard();
        // The yard as it was ahead of each act that can be undone, in a ring.
        private final Yard[] past = new Yard[UNDOS];
        private int nextPast;
        int undoable;
        private final int[] logHour = new int[LOGS];
        private final int[] logLine = new int[LOGS];
        private final int[] logFamily = new int[LOGS];
        int logs;
        int force = NONE;
        int x;

        World() {
            for (int i = 0; i < UNDOS; i++) {
                past[i] = new Yard();
            }
        }

        void settle(Court told) {
            court.copyFrom(told);
            now.copyFrom(told.begin);
            undoable = 0;
            logs = 0;
        }

        void copyFrom(World other) {
            court.copyFrom(other.court);
            now.copyFrom(other.now);
            for (int i = 0; i < UNDOS; i++) {
                copyYard(other.past[i], past[i]);
            }
            nextPast = other.nextPast;
            undoable = other.undoable;
            System.arraycopy(other.logHour, 0, logHour, 0, LOGS);
            System.arraycopy(other.logLine, 0, logLine, 0, LOGS);
            System.arraycopy(other.logFamily, 0, logFamily, 0, LOGS);
            logs = other.logs;
            force = other.force;
            x = other.x;
        }

        /** To be called ahead of every act. */
        void keepPast() {
            int place = Math.floorMod(nextPast, UNDOS);
            copyYard(now, past[place]);
            nextPast = place + 1;
            undoable = Math.min(UNDOS, undoable + 1);
        }

        boolean giveBackPast() {
            if (undoable == 0) {
                return false;
            }
            int place = Math.floorMod(nextPast - 1, UNDOS);
            copyYard(past[place], now);
            nextPast = place;
            undoable--;
            return true;
        }

        /** Places of a row may be empty, as the machine sees it, so both yards are looked at. */
        private static void copyYard(Yard from, Yard to) {
            if (from != null && to != null) {
                to.copyFrom(from);
            }
        }

        boolean hangs(int linen) {
            return court.isLinen(linen) && now.on[linen] != NONE;
        }

        void addLog(int hour, int line, int family) {
            if (logs >= 0 && logs < LOGS) {
                logHour[logs] = hour;
                logLine[logs] = line;
                logFamily[logs] = family;
                logs++;
            }
        }

        /** Whether all that is logged behind an hour is as it is in a yard. */
        boolean isAsLogged(int hour, Yard yard) {
            for (int i = 0; i < logs && i < LOGS; i++) {
                int line = logLine[i];
                if (logHour[i] == hour && court.isLine(line) && yard.held[line] != logFamily[i]) {
                    return false;
                }
            }
            return true;
        }
    }

    /** Hours that pass on a yard of their own by a law, so that asking changes nothing. */
    private static final class Hours {
        final Yard yard = new Yard();
        Court court = new Court();
        private Law law = new Law();
        private boolean rain;
        // What the words of a law are worth, by family and line.
        private final int[] cells = new int[FAMILIES * LINES];
        private final int[] damp = new int[FAMILIES * LINES];
        private final int[] wettest = new int[FAMILIES * LINES];
        private final int[] wetness = new int[FAMILIES * LINES];
        private final int[] lineCells = new int[LINES];
        private final int[] owners = new int[LINES];

        void start(Court newCourt, Law newLaw, Yard begin) {
            court = newCourt;
            law = newLaw;
            yard.copyFrom(begin);
        }

        void passMany(int n) {
            for (int i = 0; i < n; i++) {
                pass(false);
            }
        }

        /** One hour, with rain if it was told or drawn: how much air was got in it. */
        int pass(boolean drawnRain) {
            measure(drawnRain);
            for (int line = 0; line < LINES; line++) {
                owners[line] = ownerOf(line);
            }
            int got = 0;
            for (int line = 0; line < LINES; line++) {
                int owner = owners[line];
                yard.held[line] = owner;
                if (court.isFamily(owner)) {
                    yard.air[owner] += court.length[line];
                    got += court.length[line];
                }
            }
            for (int linen = 0; linen < LINENS; linen++) {
                if (yard.on[linen] != NONE) {
                    yard.wet[linen] = wetBehind(yard.wet[linen]);
                }
            }
            yard.hour++;
            return got;
        }

        private int wetBehind(int wet) {
            return rain ? Math.max(wet, court.soak) : Math.max(0, wet - court.sun);
        }

        /** Takes down what the words of a law are worth in the yard as it is; owners are told by that. */
        void measure(boolean drawnRain) {
            rain = drawnRain || court.isRainAt(yard.hour);
            for (int i = 0; i < FAMILIES * LINES; i++) {
                cells[i] = 0;
                damp[i] = 0;
                wettest[i] = 0;
                wetness[i] = 0;
            }
            for (int line = 0; line < LINES; line++) {
                lineCells[line] = 0;
            }
            for (int linen = 0; linen < LINENS; linen++) {
                int line = yard.on[linen];
                int family = court.linenFamily[linen];
                if (court.isLine(line) && court.isFamily(family)) {
                    measureLinen(family * LINES + line, court.linenLength[linen], yard.wet[linen]);
                    lineCells[line] += court.linenLength[linen];
                }
            }
        }

        private void measureLinen(int at, int length, int wet) {
            if (at >= 0 && at < FAMILIES * LINES) {
                cells[at] += length;
                damp[at] += wet > 0 ? length : 0;
                wettest[at] = Math.max(wettest[at], wet);
                wetness[at] += wet;
            }
        }

        /** Whose a line is in the yard that was measured. */
        int ownerOf(int line) {
            if (!court.isLine(line) || yard.cut[line] != 0) {
                return NONE;
            }
            int owner = NONE;
            long most = 0;
            for (int family = 0; family < court.families; family++) {
                long sum = law.sumFor(this, family, line);
                if (sum > most) {
                    most = sum;
                    owner = family;
                } else if (sum == most) {
                    owner = NONE;
                }
            }
            return owner;
        }

        long valueOf(int word, int family, int line) {
            if (family < 0 || family >= FAMILIES || line < 0 || line >= LINES) {
                return 0;
            }
            int at = family * LINES + line;
            switch (word) {
                case FAMILY: return family;
                case LINE: return line;
                case LENGTH: return court.length[line];
                case CELLS: return cells[at];
                case WET: return damp[at];
                case WETTEST: return wettest[at];
                case ALL: return wetness[at];
                case OTHERS: return lineCells[line] - cells[at];
                case HELD: return yard.held[line] == family ? 1 : 0;
                case PEGS: return yard.pegs[family];
                case AIR: return yard.air[family];
                case HOUR: return yard.hour;
                case RAIN: return rain ? 1 : 0;
                default: return 0;
            }
        }

        /** How many pieces hang and are not wet. */
        int dryUp() {
            int dry = 0;
            for (int linen = 0; linen < LINENS; linen++) {
                if (yard.isDryUp(linen)) {
                    dry++;
                }
            }
            return dry;
        }
    }

    /** Looks through all that hands could do on the yard of trial hours. */
    private static final class Seeker {
        private static final int FAR = 1000000;

        int best;
        int firstAct;
        int firstLine;
        private final int[] pieces = new int[PLACED];
        private final int[] row = new int[PLACED];
        private final int[] bestRow = new int[PLACED];
        private int placed;
        private final Yard[] turnYards = new Yard[TURNS];
        private int one;
        private int other;
        private int turns;
        private final int[] distance = new int[POLES];

        Seeker() {
            for (int turn = 0; turn < TURNS; turn++) {
                turnYards[turn] = new Yard();
            }
        }

        /** Goes through the rows as through numbers, whose digits are none and the lines. */
        void seekMost(Hours hours, Yard now, int family, int n) {
            choosePieces(hours.court, now, family);
            int rows = 1;
            for (int i = 0; i < placed; i++) {
                rows *= hours.court.lines + 1;
            }
            best = NONE;
            for (int number = 0; number < rows; number++) {
                hours.yard.copyFrom(now);
                layRow(number, hours.court.lines + 1);
                if (hangRow(hours)) {
                    hours.passMany(n);
                    if (hours.yard.airOf(family) > best) {
                        best = hours.yard.airOf(family);
                        System.arraycopy(row, 0, bestRow, 0, PLACED);
                    }
                }
            }
        }

        int placedAt(int i) {
            return i >= 0 && i < placed && i < PLACED ? bestRow[i] : ABSENT;
        }

        private void choosePieces(Court court, Yard now, int family) {
            placed = 0;
            for (int linen = 0; linen < LINENS; linen++) {
                boolean theirs = court.isLinen(linen) && court.linenFamily[linen] == family;
                if (theirs && now.on[linen] == NONE && placed >= 0 && placed < PLACED) {
                    pieces[placed] = linen;
                    placed++;
                }
            }
        }

        private void layRow(int number, int digits) {
            int rest = number;
            for (int i = Math.min(placed, PLACED) - 1; i >= 0 && digits > 0; i--) {
                row[i] = rest % digits - 1;
                rest /= digits;
            }
        }

        private boolean hangRow(Hours hours) {
            for (int i = 0; i < placed && i < PLACED; i++) {
                if (row[i] != NONE) {
                    if (!hours.yard.mayHang(hours.court, pieces[i], row[i])) {
                        return false;
                    }
                    hours.yard.putUp(hours.court, pieces[i], row[i]);
                }
            }
            return true;
        }

        /** What the game of two families is worth, and its first act. */
        void seekAct(Hours hours, int first, int second, int n) {
            one = first;
            other = second;
            turns = Math.min(n, TURNS);
            firstAct = NONE;
            best = bestFrom(hours, 0, -FAR, FAR);
        }

        /** What lies outside low and high can't matter to the turns before, and is not looked through. */
        private int bestFrom(Hours hours, int turn, int low, int high) {
            Yard before = turn >= 0 && turn < turns && turn < TURNS ? turnYards[turn] : null;
            if (before == null) {
                return hours.yard.airOf(one) - hours.yard.airOf(other);
            }
            before.copyFrom(hours.yard);
            boolean ones = turn % 2 == 0;
            int mover = ones ? one : other;
            int found = ones ? low : high;
            for (int act = NONE; act < 10 * LINES && (ones ? found < high : found > low); act++) {
                if (mayAct(hours.court, before, mover, act)) {
                    hours.yard.copyFrom(before);
                    int value = bestBehind(hours, turn, act, ones ? found : low, ones ? high : found);
                    if (ones ? value > found : value < found) {
                        found = value;
                        firstAct = turn == 0 ? act : firstAct;
                    }
                }
            }
            return found;
        }

        private int bestBehind(Hours hours, int turn, int act, int low, int high) {
            if (act != NONE) {
                hours.yard.putUp(hours.court, act % 10, act / 10);
            }
            hours.pass(false);
            return bestFrom(hours, turn + 1, low, high);
        }

        private static boolean mayAct(Court court, Yard yard, int mover, int act) {
            if (act == NONE) {
                return true;
            }
            int linen = act % 10;
            return court.isLinen(linen) && court.linenFamily[linen] == mover && yard.mayHang(court, linen, act / 10);
        }

        /**
         * The least set of the fewest pieces: without a family to be taken from the line so that it is nobody's,
         * with one to be hung there so that it is theirs. NONE, if there is none.
         */
        int leastSet(Hours hours, Yard now, int line, int family) {
            Court court = hours.court;
            int pool = family == NONE ? now.linenOn(line) : court.linenOf(family) & ~now.linenUp();
            int least = NONE;
            for (int set = 0; set < 1 << LINENS; set++) {
                boolean fewer = least == NONE || Integer.bitCount(set) < Integer.bitCount(least);
                if ((set & ~pool) == 0 && fewer) {
                    hours.yard.copyFrom(now);
                    if (moveAll(hours, set, line, family != NONE)) {
                        hours.measure(false);
                        least = hours.ownerOf(line) == family ? set : least;
                    }
                }
            }
            return least;
        }

        private static boolean moveAll(Hours hours, int set, int line, boolean up) {
            for (int linen = 0; linen < LINENS; linen++) {
                if ((set >> linen & 1) != 0) {
                    if (up && !hours.yard.mayHang(hours.court, linen, line)) {
                        return false;
                    }
                    if (up) {
                        hours.yard.putUp(hours.court, linen, line);
                    } else {
                        hours.yard.takeDown(hours.court, linen);
                    }
                }
            }
            return true;
        }

        /** Finds the shortest way; a line counts 16 times its length and 1, so that fewer lines win among ways as short. */
        boolean seekWay(Court court, Yard now, int from, int to) {
            for (int pole = 0; pole < POLES; pole++) {
                distance[pole] = pole == to ? 0 : FAR;
            }
            for (int round = 1; round < POLES; round++) {
                for (int line = 0; line < LINES; line++) {
                    if (court.isLine(line) && now.cut[line] == 0) {
                        relax(court, line);
                    }
                }
            }
            int whole = distanceFrom(from);
            best = whole / 16;
            firstLine = NONE;
            for (int line = LINES - 1; line >= 0 && from != to; line--) {
                if (court.isLine(line) && now.cut[line] == 0 && leadsOn(court, line, from, whole)) {
                    firstLine = line;
                }
            }
            return whole < FAR;
        }

        private void relax(Court court, int line) {
            int a = court.poleA[line];
            int b = court.poleB[line];
            if (a >= 0 && a < POLES && b >= 0 && b < POLES) {
                int step = 16 * court.length[line] + 1;
                distance[a] = Math.min(distance[a], distance[b] + step);
                distance[b] = Math.min(distance[b], distance[a] + step);
            }
        }

        private boolean leadsOn(Court court, int line, int from, int whole) {
            int step = 16 * court.length[line] + 1;
            return court.poleA[line] == from && distanceFrom(court.poleB[line]) + step == whole
                || court.poleB[line] == from && distanceFrom(court.poleA[line]) + step == whole;
        }

        private int distanceFrom(int pole) {
            return pole >= 0 && pole < POLES ? distance[pole] : FAR;
        }
    }

    /** All rules, and none, tried from the begin on against what was logged. */
    private static final class Trials {
        int fitting;
        int first;
        private final int[][] heldBy = new int[RULES + 1][LINES];

        /** Tries them all; who holds each line behind an hour is kept for those that fit. */
        void tryAll(Hours hours, World world, Book book, int hour) {
            fitting = 0;
            first = NONE;
            for (int rule = NONE; rule < book.rules; rule++) {
                hours.start(world.court, book.lawOf(rule), world.court.begin);
                if (fits(hours, world, hour)) {
                    first = fitting == 0 ? rule : first;
                    fitting++;
                }
            }
        }

        private boolean fits(Hours hours, World world, int hour) {
            for (int n = 0; n <= LAST_LOGGED; n++) {
                hours.pass(false);
                if (!world.isAsLogged(n, hours.yard)) {
                    return false;
                }
                if (n == hour && fitting >= 0 && fitting <= RULES) {
                    System.arraycopy(hours.yard.held, 0, heldBy[fitting], 0, LINES);
                }
            }
            return true;
        }

        int bestLook(Court court) {
            int best = 0;
            for (int line = 1; line < court.lines; line++) {
                if (mostAlike(line) < mostAlike(best)) {
                    best = line;
                }
            }
            return best;
        }

        /** How many of those that fit are alike in who holds a line, most of all. */
        int mostAlike(int line) {
            int most = 0;
            for (int family = NONE; family < FAMILIES; family++) {
                int alike = 0;
                for (int i = 0; i < fitting && i <= RULES; i++) {
                    if (line >= 0 && line < LINES && heldBy[i][line] == family) {
                        alike++;
                    }
                }
                most = Math.max(most, alike);
            }
            return most;
        }
    }
}
