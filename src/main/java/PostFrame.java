/**
 * A sorting frame by postal code: FRAME and RULES are told on a TAPE, LETTERS go by TURNS, and
 * questions are answered by the PLAN, by TURNS that are tried on a copy, or by NOTES.
 */
public final class PostFrame {
    public static final int NONE = -1;

    /** The second "no", where NONE is already an answer, and the third one, where both are. */
    private static final int MISSING = -2;
    private static final int WRONG = -3;

    private static final int LOST = -1;
    private static final int LOST_BIT = 64;

    private static final int TAPE_MOST = 400;
    private static final int FEED_BYTES = 20;
    private static final int RADIX_LEAST = 2;
    private static final int RADIX_MOST = 4;
    private static final int LONG_MOST = 4;
    private static final int CODES_MOST = 256;
    private static final int HOLES_MOST = 6;
    private static final int ROOM_MOST = 20;
    private static final int ROOM_UNTOLD = 5;
    private static final int ENTRIES_MOST = 12;
    private static final int LETTERS_TOLD_MOST = 12;
    private static final int WAITING_MOST = 20;
    private static final int FRAME_CLAUSES_MOST = 40;
    private static final int RULE_CLAUSES_MOST = 12;
    private static final int RULES_MOST = 6;
    private static final int PARTS_MOST = 60;
    private static final int DEPTH_MOST = 10;
    private static final int NUMBER_DIGITS_MOST = 5;
    private static final int NUMBER_MOST = 99999;
    private static final int ACTS_MOST = 20;
    private static final int IMAGES = 4;
    private static final int NOTES_MOST = 10;
    private static final int NOTE_TURN_MOST = 60;
    private static final int NOTE_MANY_MOST = 20;
    private static final int BAGS_MOST = 999;
    private static final int TURN_MOST = 999;
    private static final int AHEAD_MOST = 100;
    private static final int SEEN_TURNS = 200;
    private static final int ENOUGH_MOST = 40;
    private static final int PENCE_MOST = 9999;
    private static final int POSTS_TIMES_MOST = 10;
    private static final int POSTS_TURNS_MOST = 60;
    private static final int SMUDGED = 9;

    /** Kinds of FAULT. */
    private static final int STRAY = 0;
    private static final int BAD_NUMBER = 1;
    private static final int TOO_DEEP = 2;
    private static final int PART_TOO_MANY = 3;
    private static final int CLAUSE_TOO_MANY = 4;

    /** What the tape shows behind its last byte. */
    private static final int END = -1;

    /** WORDS of a LETTER, by their place among its values. */
    private static final int PLACE = 0;
    private static final int CODE = 1;
    private static final int FIRST = 2;
    private static final int LAST = 3;
    private static final int HOLE = 4;
    private static final int LYING = 5;
    private static final int ROOM = 6;
    private static final int FIT = 7;
    private static final int WAITING = 8;
    private static final int BAGS = 9;
    private static final int TURN = 10;
    private static final int WORDS = 11;

    /** Steps of a RULE: from 0 on a NUMBER, from -1 down to -WORDS a WORD, these the rest. */
    private static final int ADD = -20;
    private static final int SUBTRACT = -21;
    private static final int MULTIPLY = -22;
    private static final int DIVIDE = -23;
    private static final int REST = -24;
    private static final int BELOW = -25;
    private static final int AT_MOST = -26;
    private static final int SAME = -27;
    private static final int AT_LEAST = -28;
    private static final int ABOVE = -29;
    private static final int AND = -30;
    private static final int OR = -31;
    private static final int NOT = -32;
    private static final int NO_STEP = -99;

    private final Tape tape;
    private final FrameReader frameReader;
    private final RuleReader ruleReader;
    private final Rule[] rules;
    private int ruleCount;
    private final Desk desk;
    private final Desk[] images;
    private final boolean[] imageMade;
    private final Work[] past;
    private int pastNext;
    private int pastCount;
    private final Chart chart;
    private final Runner runner;
    private final Advice advice;

    public PostFrame() {
        tape = new Tape();
        frameReader = new FrameReader(tape);
        ruleReader = new RuleReader(tape);
        rules = new Rule[RULES_MOST];
        desk = new Desk();
        images = new Desk[IMAGES];
        imageMade = new boolean[IMAGES];
        for (int k = 0; k < IMAGES; k++) {
            images[k] = new Desk();
        }
        past = new Work[ACTS_MOST];
        for (int i = 0; i < ACTS_MOST; i++) {
            past[i] = new Work();
        }
        chart = new Chart();
        runner = new Runner(chart);
        advice = new Advice(chart);
    }

    // ---- what is told ----

    public int feed(int a, int b, int c, int d, int e) {
        if (tape.size + FEED_BYTES > TAPE_MOST) {
            return NONE;
        }
        tape.add(a);
        tape.add(b);
        tape.add(c);
        tape.add(d);
        tape.add(e);
        return tape.size;
    }

    public int end(int n) {
        if (n < 0 || n > tape.size) {
            return NONE;
        }
        tape.size = n;
        return n;
    }

    public int frame() {
        int fault = frameReader.parse();
        tape.size = 0;
        if (fault != 0) {
            return MISSING - fault;
        }
        desk.take(frameReader.shape, frameReader.begin);
        pastCount = 0;
        return desk.now.plan.size;
    }

    public int rule() {
        if (ruleCount >= RULES_MOST) {
            return NONE;
        }
        int fault = ruleReader.parse();
        tape.size = 0;
        if (fault != 0) {
            return MISSING - fault;
        }
        rules[ruleCount] = new Rule(ruleReader);
        ruleCount++;
        return ruleCount - 1;
    }

    public int force(int rule) {
        if (rule < NONE || rule >= ruleCount) {
            return MISSING;
        }
        int was = desk.inForce;
        desk.inForce = rule;
        return was;
    }

    // ---- what there is ----

    public int hole(int hole, int what) {
        if (!desk.shape.hasHole(hole)) {
            return NONE;
        }
        switch (what) {
            case 0:
                return desk.shape.room[hole];
            case 1:
                return desk.now.lying[hole];
            case 2:
                return desk.now.bags[hole];
            default:
                return NONE;
        }
    }

    public int entry(int entry, int what) {
        Plan plan = desk.now.plan;
        if (!plan.has(entry)) {
            return NONE;
        }
        switch (what) {
            case 0:
                return plan.digits[entry];
            case 1:
                return plan.prefix[entry];
            case 2:
                return plan.hole[entry];
            default:
                return NONE;
        }
    }

    public int waits(int place) {
        if (place < 0 || place >= desk.now.waiting) {
            return NONE;
        }
        return desk.now.row[place];
    }

    public int count(int what) {
        switch (what) {
            case 0:
                return desk.shape.radix;
            case 1:
                return desk.shape.digits;
            case 2:
                return desk.shape.holes;
            case 3:
                return desk.now.plan.size;
            case 4:
                return desk.now.waiting;
            case 5:
                return ruleCount;
            case 6:
                return desk.inForce;
            case 7:
                return desk.now.turn;
            case 8:
                return desk.now.lyingInAll();
            case 9:
                return desk.now.bagsOfAll();
            case 10:
                return desk.now.lost;
            case 11:
                return desk.notes;
            case 12:
                return pastCount;
            case 13:
                return desk.seed;
            case 14:
                return tape.size;
            default:
                return NONE;
        }
    }

    // ---- ACTS ----

    public int turn() {
        if (!hasFrame() || desk.now.turn >= TURN_MOST) {
            return NONE;
        }
        startFromNow();
        int code = runner.step(ruleInForce());
        remember();
        desk.now.copyFrom(runner.work);
        return code == NONE ? MISSING : code;
    }

    public int post(int code) {
        if (!desk.shape.hasCode(code) || desk.now.waiting >= WAITING_MOST) {
            return NONE;
        }
        remember();
        desk.now.queue(code);
        return desk.now.waiting;
    }

    public int tie(int hole) {
        if (!desk.shape.hasHole(hole) || desk.now.lying[hole] == 0) {
            return NONE;
        }
        remember();
        int letters = desk.now.lying[hole];
        desk.now.bagUp(hole);
        return letters;
    }

    public int enter(int digits, int prefix, int hole) {
        if (!desk.shape.hasPrefix(digits, prefix) || !desk.shape.hasHole(hole)
                || !desk.now.plan.canTake(digits, prefix)) {
            return NONE;
        }
        remember();
        return desk.now.plan.put(digits, prefix, hole);
    }

    public int strike(int entry) {
        if (!desk.now.plan.has(entry)) {
            return NONE;
        }
        remember();
        desk.now.plan.drop(entry);
        return desk.now.plan.size;
    }

    public int undo() {
        if (pastCount == 0) {
            return NONE;
        }
        pastNext = (pastNext + ACTS_MOST - 1) % ACTS_MOST;
        pastCount--;
        desk.now.copyFrom(past[pastNext]);
        return pastCount;
    }

    // ---- by the PLAN ----

    public int where(int code, int what) {
        if (!desk.shape.hasCode(code) || what < 0 || what > 1) {
            return NONE;
        }
        drawNow();
        if (chart.entryFor(code) == NONE) {
            return MISSING;
        }
        return what == 0 ? chart.holeFor(code) : chart.digitsFor(code);
    }

    public int may(int reading) {
        drawNow();
        return chart.takeReading(reading) ? chart.meantHoles() : NONE;
    }

    public int read(int reading, int what) {
        if (what < 0 || what > 1) {
            return NONE;
        }
        drawNow();
        if (!chart.takeReading(reading)) {
            return NONE;
        }
        int set = chart.setToRead();
        return what == 0 ? Integer.bitCount(set) : set;
    }

    public int codes(int hole, int what) {
        boolean known = hole == NONE || desk.shape.hasHole(hole);
        if (!hasFrame() || !known || what < 0 || what > 1) {
            return WRONG;
        }
        drawNow();
        return what == 0 ? chart.howManyTo(hole) : chart.leastTo(hole);
    }

    public int slips(int code) {
        if (!desk.shape.hasCode(code)) {
            return NONE;
        }
        drawNow();
        return chart.slipsOf(code);
    }

    public int worst(int what) {
        if (!hasFrame() || what < 0 || what > 1) {
            return NONE;
        }
        drawNow();
        int code = chart.mostSlipping();
        return what == 0 ? code : chart.slipsOf(code);
    }

    public int idle() {
        if (!hasFrame()) {
            return NONE;
        }
        drawNow();
        return chart.idleEntries();
    }

    public int least() {
        if (!hasFrame()) {
            return NONE;
        }
        drawNow();
        return chart.fewestEntries();
    }

    public int one(int what) {
        if (!hasFrame() || what < 0 || what > 4) {
            return MISSING;
        }
        drawNow();
        advice.seekEntry(desk.shape, desk.now);
        switch (what) {
            case 0:
                return advice.lost;
            case 1:
                return advice.bags;
            case 2:
                return advice.digits;
            case 3:
                return advice.prefix;
            default:
                return advice.hole;
        }
    }

    public int change(int what) {
        if (!hasFrame() || what < 0 || what > 2) {
            return MISSING;
        }
        drawNow();
        advice.seekChange(desk.shape, desk.now);
        switch (what) {
            case 0:
                return advice.bags;
            case 1:
                return advice.hole;
            default:
                return advice.otherHole;
        }
    }

    // ---- how it goes on ----

    public int ahead(int hole, int n, int what) {
        boolean asked = what == 0 ? desk.shape.hasHole(hole) : what > 0 && what <= 3;
        if (!hasFrame() || !asked || n < 0 || n > AHEAD_MOST) {
            return NONE;
        }
        startFromNow();
        runner.steps(ruleInForce(), n);
        switch (what) {
            case 0:
                return runner.work.lying[hole];
            case 1:
                return runner.work.waiting;
            case 2:
                return runner.work.bagsOfAll();
            default:
                return runner.work.lost;
        }
    }

    public int sorted() {
        if (!hasFrame()) {
            return NONE;
        }
        startFromNow();
        return runner.turnOfSorting(ruleInForce());
    }

    public int tied(int hole) {
        if (!desk.shape.hasHole(hole)) {
            return NONE;
        }
        startFromNow();
        return runner.turnOfTying(ruleInForce(), hole, SEEN_TURNS);
    }

    public int enough(int hole, int n) {
        if (!desk.shape.hasHole(hole) || n < 1 || n > ENOUGH_MOST) {
            return NONE;
        }
        startFromNow();
        for (int room = 1; room <= ROOM_MOST; room++) {
            runner.work.copyFrom(desk.now);
            runner.shape.room[hole] = room;
            if (runner.turnOfTying(ruleInForce(), hole, n) == MISSING) {
                return room;
            }
        }
        return MISSING;
    }

    // ---- what can have been ----

    public int said(int letter, int what) {
        if (letter < 0 || letter >= desk.begin.waiting || what < 0 || what > 1) {
            return NONE;
        }
        runner.start(desk.shape, desk.begin);
        int many = 0;
        int least = MISSING;
        for (int code = 0; code < desk.shape.codes; code++) {
            runner.work.copyFrom(desk.begin);
            runner.work.row[letter] = code;
            if (runner.agrees(desk, ruleInForce())) {
                many++;
                if (least == MISSING) {
                    least = code;
                }
            }
        }
        return what == 0 ? many : least;
    }

    public int sent(int entry) {
        if (!desk.begin.plan.has(entry)) {
            return NONE;
        }
        runner.start(desk.shape, desk.begin);
        int bits = 0;
        for (int hole = 0; hole < desk.shape.holes; hole++) {
            runner.work.copyFrom(desk.begin);
            runner.work.plan.hole[entry] = hole;
            if (runner.agrees(desk, ruleInForce())) {
                bits |= 1 << hole;
            }
        }
        return bits;
    }

    public int pence(int much, int hole) {
        if (!desk.shape.hasHole(hole) || much < 0 || much > PENCE_MOST) {
            return NONE;
        }
        return desk.now.shareOf(much, hole);
    }

    public int note(int n, int hole, int many) {
        if (n == NONE) {
            desk.notes = 0;
            return 0;
        }
        boolean known = n >= 0 && n <= NOTE_TURN_MOST && desk.shape.hasHole(hole)
                && many >= 0 && many <= NOTE_MANY_MOST;
        if (!known || desk.notes >= NOTES_MOST) {
            return MISSING;
        }
        desk.addNote(n, hole, many);
        return desk.notes;
    }

    public int ruled(int what) {
        if (!hasFrame() || what < 0 || what > 1) {
            return WRONG;
        }
        runner.start(desk.shape, desk.begin);
        int many = 0;
        int first = MISSING;
        for (int rule = NONE; rule < ruleCount; rule++) {
            runner.work.copyFrom(desk.begin);
            if (runner.agrees(desk, ruleAt(rule))) {
                many++;
                if (first == MISSING) {
                    first = rule;
                }
            }
        }
        return what == 0 ? many : first;
    }

    public int look(int n, int what) {
        if (!hasFrame() || n < 0 || n > NOTE_TURN_MOST || what < 0 || what > 1) {
            return NONE;
        }
        runner.start(desk.shape, desk.begin);
        advice.sights = 0;
        for (int rule = NONE; rule < ruleCount; rule++) {
            runner.work.copyFrom(desk.begin);
            if (runner.agrees(desk, ruleAt(rule))) {
                runner.work.copyFrom(desk.begin);
                runner.steps(ruleAt(rule), n + 1);
                advice.addSight(runner.work.lying);
            }
        }
        if (advice.sights == 0) {
            return MISSING;
        }
        advice.seekSight(desk.shape.holes);
        return what == 0 ? advice.hole : advice.alike;
    }

    // ---- DRAWS ----

    public int seed(int x) {
        if (x < 0) {
            return NONE;
        }
        int was = desk.seed;
        desk.seed = x;
        return was;
    }

    public int posts(int m, int n, int p, int what) {
        boolean known = m >= 1 && m <= POSTS_TIMES_MOST && n >= 1 && n <= POSTS_TURNS_MOST
                && p >= 0 && p <= 100 && what >= 0 && what <= 1;
        if (!hasFrame() || !known) {
            return NONE;
        }
        startFromNow();
        runner.seed = desk.seed;
        int bags = 0;
        int lost = 0;
        for (int time = 0; time < m; time++) {
            runner.work.copyFrom(desk.now);
            runner.stepsWithPosts(ruleInForce(), n, p);
            bags += runner.work.bagsOfAll();
            lost += runner.work.lost;
        }
        return what == 0 ? bags : lost;
    }

    // ---- IMAGES ----

    public int image(int k) {
        if (k < 0 || k >= IMAGES) {
            return NONE;
        }
        images[k].copyFrom(desk);
        imageMade[k] = true;
        return desk.now.turn;
    }

    public int back(int k) {
        if (k < 0 || k >= IMAGES || !imageMade[k]) {
            return NONE;
        }
        desk.copyFrom(images[k]);
        pastCount = 0;
        return desk.now.turn;
    }

    // ---- helpers ----

    private boolean hasFrame() {
        return desk.shape.codes > 0;
    }

    private Rule ruleAt(int number) {
        return number < 0 || number >= ruleCount ? null : rules[number];
    }

    private Rule ruleInForce() {
        return ruleAt(desk.inForce);
    }

    private void remember() {
        past[pastNext].copyFrom(desk.now);
        pastNext = (pastNext + 1) % ACTS_MOST;
        pastCount = Math.min(pastCount + 1, ACTS_MOST);
    }

    private void drawNow() {
        chart.draw(desk.shape, desk.now.plan);
    }

    private void startFromNow() {
        runner.start(desk.shape, desk.now);
    }

    /** The TAPE: bytes that were fed, and a finger that reads them and keeps the first FAULT. */
    private static final class Tape {
        final int[] bytes = new int[TAPE_MOST];
        int size;
        int at;
        int fault;

        void add(int number) {
            for (int shift = 24; shift >= 0 && size < TAPE_MOST; shift -= 8) {
                bytes[size] = (number >>> shift) & 255;
                size++;
            }
        }

        void rewind() {
            at = 0;
            fault = 0;
        }

        /** Always false, so that a reader can fail and give up in one line. */
        boolean fail(int place, int kind) {
            if (fault == 0) {
                fault = 1 + 8 * place + kind;
            }
            return false;
        }

        int byteAt(int place) {
            return place >= 0 && place < size ? bytes[place] : END;
        }

        /** The next byte that is no blank; the finger stands on it. */
        int next() {
            for (int i = at; i < size && bytes[i] == ' '; i++) {
                at = i + 1;
            }
            return at < size ? bytes[at] : END;
        }

        boolean takeByte(int sign) {
            if (next() != sign) {
                return fail(at, STRAY);
            }
            at++;
            return true;
        }

        /** Goes behind the word, if the whole WORD that stands next is that one. */
        boolean takeWord(String word) {
            next();
            for (int i = 0; i < word.length(); i++) {
                if (byteAt(at + i) != word.charAt(i)) {
                    return false;
                }
            }
            int behind = byteAt(at + word.length());
            if (behind >= 'a' && behind <= 'z') {
                return false;
            }
            at += word.length();
            return true;
        }

        /** A NUMBER of these bounds, or NONE and a FAULT. */
        int takeNumber(int least, int most) {
            if (!isDigit(next())) {
                fail(at, STRAY);
                return NONE;
            }
            int first = at;
            int value = 0;
            for (int i = first; i < size && isDigit(bytes[i]); i++) {
                if (i < first + NUMBER_DIGITS_MOST) {
                    value = value * 10 + bytes[i] - '0';
                }
                at = i + 1;
            }
            if (at - first > NUMBER_DIGITS_MOST || value < least || value > most) {
                fail(first, BAD_NUMBER);
                return NONE;
            }
            return value;
        }

        /** Behind a CLAUSE: whether another one must come. */
        boolean takeSemicolon() {
            return next() != END && takeByte(';');
        }

        static boolean isDigit(int sign) {
            return sign >= '0' && sign <= '9';
        }
    }

    /** Reads a FRAME from the TAPE, apart from the one in use: a FAULT must change nothing. */
    private static final class FrameReader {
        private static final int UNKNOWN = 0;
        private static final int FRAME = 1;
        private static final int ROOM_OF = 2;
        private static final int PLAN = 3;
        private static final int LETTER = 4;

        final Tape tape;
        final Shape shape = new Shape();
        final Work begin = new Work();

        FrameReader(Tape tape) {
            this.tape = tape;
        }

        int parse() {
            tape.rewind();
            begin.clear();
            boolean more = true;
            for (int clause = 0; clause <= FRAME_CLAUSES_MOST && more; clause++) {
                more = takeClause(clause) && tape.takeSemicolon();
            }
            return tape.fault;
        }

        private boolean takeClause(int clause) {
            tape.next();
            int place = tape.at;
            int kind = takeKind();
            if (kind == UNKNOWN) {
                return tape.fail(place, STRAY);
            }
            if (tooMany(clause, kind)) {
                return tape.fail(place, CLAUSE_TOO_MANY);
            }
            switch (kind) {
                case FRAME:
                    return takeShape();
                case ROOM_OF:
                    return takeRoom();
                case PLAN:
                    return takeEntry();
                default:
                    return takeLetter();
            }
        }

        private int takeKind() {
            if (tape.takeWord("frame")) {
                return FRAME;
            }
            if (tape.takeWord("room")) {
                return ROOM_OF;
            }
            if (tape.takeWord("plan")) {
                return PLAN;
            }
            return tape.takeWord("letter") ? LETTER : UNKNOWN;
        }

        private boolean tooMany(int clause, int kind) {
            return clause >= FRAME_CLAUSES_MOST
                    || (clause == 0) != (kind == FRAME)
                    || (kind == PLAN && begin.plan.size >= ENTRIES_MOST)
                    || (kind == LETTER && begin.waiting >= LETTERS_TOLD_MOST);
        }

        private boolean takeShape() {
            int radix = tape.takeNumber(RADIX_LEAST, RADIX_MOST);
            if (radix == NONE) {
                return false;
            }
            int digits = tape.takeNumber(1, LONG_MOST);
            if (digits == NONE) {
                return false;
            }
            int holes = tape.takeNumber(1, HOLES_MOST);
            if (holes == NONE) {
                return false;
            }
            shape.lay(radix, digits, holes);
            return true;
        }

        private boolean takeRoom() {
            int hole = tape.takeNumber(0, shape.holes - 1);
            if (!shape.hasHole(hole)) {
                return false;
            }
            int room = tape.takeNumber(1, ROOM_MOST);
            if (room == NONE) {
                return false;
            }
            shape.room[hole] = room;
            return true;
        }

        private boolean takeEntry() {
            int digits = tape.takeNumber(0, shape.digits);
            if (digits == NONE) {
                return false;
            }
            int prefix = tape.takeNumber(0, shape.prefixesOf(digits) - 1);
            if (prefix == NONE) {
                return false;
            }
            int hole = tape.takeNumber(0, shape.holes - 1);
            if (hole == NONE) {
                return false;
            }
            begin.plan.put(digits, prefix, hole);
            return true;
        }

        private boolean takeLetter() {
            int code = tape.takeNumber(0, shape.codes - 1);
            if (code == NONE) {
                return false;
            }
            begin.queue(code);
            return true;
        }
    }

    /** Reads a RULE from the TAPE into steps, operands ahead of what joins them. */
    private static final class RuleReader {
        final Tape tape;
        final int[] steps = new int[TAPE_MOST];
        int size;
        /** Of each CLAUSE: behind the last step of its SUM, and of its TEST. */
        final int[] sumEnd = new int[RULE_CLAUSES_MOST];
        final int[] testEnd = new int[RULE_CLAUSES_MOST];
        int clauses;
        private int parts;

        RuleReader(Tape tape) {
            this.tape = tape;
        }

        int parse() {
            tape.rewind();
            size = 0;
            clauses = 0;
            parts = 0;
            boolean more = true;
            for (int clause = 0; clause <= RULE_CLAUSES_MOST && more; clause++) {
                tape.next();
                int place = tape.at;
                if (!tape.takeWord("take")) {
                    tape.fail(place, STRAY);
                } else if (clause >= RULE_CLAUSES_MOST) {
                    tape.fail(place, CLAUSE_TOO_MANY);
                } else if (takeSum()) {
                    sumEnd[clause] = size;
                    more = !tape.takeWord("if") || takeTest(0);
                    testEnd[clause] = size;
                    clauses = clause + 1;
                }
                more = more && tape.fault == 0 && tape.takeSemicolon();
            }
            return tape.fault;
        }

        private boolean takeTest(int depth) {
            if (!takeFact(depth)) {
                return false;
            }
            boolean orOpen = false;
            boolean more = true;
            for (int i = 0; i < TAPE_MOST && more; i++) {
                if (tape.takeWord("and")) {
                    if (!takeFact(depth)) {
                        return false;
                    }
                    put(AND);
                } else if (tape.takeWord("or")) {
                    // an or joins whole PARTS, so the one before it is only joined now
                    if (orOpen) {
                        put(OR);
                    }
                    orOpen = true;
                    if (!takeFact(depth)) {
                        return false;
                    }
                } else {
                    more = false;
                }
            }
            if (orOpen) {
                put(OR);
            }
            return true;
        }

        private boolean takeFact(int depth) {
            int sign = tape.next();
            int place = tape.at;
            boolean not = tape.takeWord("not");
            if (not || sign == '[') {
                if (depth >= DEPTH_MOST) {
                    return tape.fail(place, TOO_DEEP);
                }
                if (not) {
                    return takeFact(depth + 1) && put(NOT);
                }
                return tape.takeByte('[') && takeTest(depth + 1) && tape.takeByte(']');
            }
            if (!takeSum()) {
                return false;
            }
            int comparison = takeComparison();
            return comparison != NO_STEP && takeSum() && put(comparison);
        }

        private int takeComparison() {
            int sign = tape.next();
            int place = tape.at;
            if (sign != '<' && sign != '=' && sign != '>') {
                tape.fail(place, STRAY);
                return NO_STEP;
            }
            if (!countPart(place)) {
                return NO_STEP;
            }
            tape.at++;
            if (sign == '=') {
                return SAME;
            }
            if (tape.byteAt(tape.at) == '=') {
                tape.at++;
                return sign == '<' ? AT_MOST : AT_LEAST;
            }
            return sign == '<' ? BELOW : ABOVE;
        }

        private boolean takeSum() {
            if (!takeValue()) {
                return false;
            }
            int open = NO_STEP;
            int step = joinOf(tape.next());
            for (int i = 0; i < TAPE_MOST && step != NO_STEP; i++) {
                tape.at++;
                boolean joinsTerms = step == ADD || step == SUBTRACT;
                // + and - join whole TERMS, so the one before is only joined now
                if (joinsTerms && open != NO_STEP) {
                    put(open);
                }
                if (!takeValue()) {
                    return false;
                }
                if (joinsTerms) {
                    open = step;
                } else {
                    put(step);
                }
                step = joinOf(tape.next());
            }
            return open == NO_STEP || put(open);
        }

        private boolean takeValue() {
            boolean isNumber = Tape.isDigit(tape.next());
            int place = tape.at;
            if (isNumber) {
                int number = tape.takeNumber(0, NUMBER_MOST);
                return number != NONE && countPart(place) && put(number);
            }
            for (int word = 0; word < WORDS; word++) {
                if (tape.takeWord(textOf(word))) {
                    return countPart(place) && put(-1 - word);
                }
            }
            return tape.fail(place, STRAY);
        }

        private boolean countPart(int place) {
            parts++;
            return parts <= PARTS_MOST || tape.fail(place, PART_TOO_MANY);
        }

        private boolean put(int step) {
            if (size < TAPE_MOST) {
                steps[size] = step;
                size++;
            }
            return true;
        }

        private static int joinOf(int sign) {
            switch (sign) {
                case '+':
                    return ADD;
                case '-':
                    return SUBTRACT;
                case '*':
                    return MULTIPLY;
                case '/':
                    return DIVIDE;
                case '%':
                    return REST;
                default:
                    return NO_STEP;
            }
        }

        private static String textOf(int word) {
            switch (word) {
                case PLACE:
                    return "place";
                case CODE:
                    return "code";
                case FIRST:
                    return "first";
                case LAST:
                    return "last";
                case HOLE:
                    return "hole";
                case LYING:
                    return "lying";
                case ROOM:
                    return "room";
                case FIT:
                    return "fit";
                case WAITING:
                    return "waiting";
                case BAGS:
                    return "bags";
                default:
                    return "turn";
            }
        }
    }

    /** A RULE as steps on a stack. */
    private static final class Rule {
        private final int[] steps;
        private final int[] sumEnd;
        private final int[] testEnd;
        private final long[] stack = new long[PARTS_MOST];

        Rule(RuleReader reader) {
            steps = new int[reader.size];
            sumEnd = new int[reader.clauses];
            testEnd = new int[reader.clauses];
            System.arraycopy(reader.steps, 0, steps, 0, steps.length);
            System.arraycopy(reader.sumEnd, 0, sumEnd, 0, sumEnd.length);
            System.arraycopy(reader.testEnd, 0, testEnd, 0, testEnd.length);
        }

        /** The SUM of the first CLAUSE that is for a LETTER of these words; 0 without one. */
        long worth(long[] words) {
            int from = 0;
            for (int clause = 0; clause < sumEnd.length; clause++) {
                boolean untested = testEnd[clause] == sumEnd[clause];
                if (untested || run(sumEnd[clause], testEnd[clause], words) != 0) {
                    return run(from, sumEnd[clause], words);
                }
                from = testEnd[clause];
            }
            return 0;
        }

        private long run(int from, int to, long[] words) {
            int top = 0;
            for (int i = from; i < to && i < steps.length; i++) {
                int step = steps[i];
                if (step >= -WORDS) {
                    if (top < stack.length) {
                        stack[top] = step >= 0 ? step : words[-1 - step];
                        top++;
                    }
                } else if (step == NOT) {
                    if (top >= 1) {
                        stack[top - 1] = stack[top - 1] == 0 ? 1 : 0;
                    }
                } else if (top >= 2) {
                    top--;
                    stack[top - 1] = join(step, stack[top - 1], stack[top]);
                }
            }
            return top > 0 ? stack[0] : 0;
        }

        private static long join(int step, long left, long right) {
            switch (step) {
                case ADD:
                    return left + right;
                case SUBTRACT:
                    return left - right;
                case MULTIPLY:
                    return left * right;
                case DIVIDE:
                    return right == 0 ? 0 : left / right;
                case REST:
                    return right == 0 ? 0 : left % right;
                case BELOW:
                    return left < right ? 1 : 0;
                case AT_MOST:
                    return left <= right ? 1 : 0;
                case SAME:
                    return left == right ? 1 : 0;
                case AT_LEAST:
                    return left >= right ? 1 : 0;
                case ABOVE:
                    return left > right ? 1 : 0;
                case AND:
                    return left & right;
                default:
                    return left | right;
            }
        }
    }

    /** What a FRAME fixes: RADIX, LONG, HOLES and their ROOM. Without a FRAME all are 0. */
    private static final class Shape {
        int radix;
        int digits;
        int holes;
        int codes;
        /** RADIX to the power of the place. */
        final int[] power = new int[LONG_MOST + 1];
        final int[] room = new int[HOLES_MOST];

        void lay(int newRadix, int newDigits, int newHoles) {
            radix = newRadix;
            digits = newDigits;
            holes = newHoles;
            power[0] = 1;
            for (int i = 1; i <= LONG_MOST; i++) {
                power[i] = power[i - 1] * radix;
            }
            codes = prefixesOf(digits);
            for (int hole = 0; hole < HOLES_MOST; hole++) {
                room[hole] = ROOM_UNTOLD;
            }
        }

        void copyFrom(Shape other) {
            radix = other.radix;
            digits = other.digits;
            holes = other.holes;
            codes = other.codes;
            System.arraycopy(other.power, 0, power, 0, power.length);
            System.arraycopy(other.room, 0, room, 0, room.length);
        }

        boolean hasHole(int hole) {
            return hole >= 0 && hole < holes;
        }

        boolean hasCode(int code) {
            return code >= 0 && code < codes;
        }

        boolean hasPrefix(int many, int prefix) {
            return many >= 0 && many <= digits && prefix >= 0 && prefix < prefixesOf(many);
        }

        int prefixesOf(int many) {
            return many >= 0 && many <= LONG_MOST ? power[many] : 0;
        }

        /** How many CODES have one PREFIX of so many DIGITS. */
        int spanOf(int many) {
            int rest = digits - many;
            return rest >= 0 && rest <= LONG_MOST ? power[rest] : 0;
        }

        int prefixOf(int code, int many) {
            int span = spanOf(many);
            return span == 0 ? 0 : code / span;
        }

        /** A digit of a CODE, place 0 the first one. */
        int digitOf(int code, int place) {
            int span = spanOf(place + 1);
            return span == 0 || radix == 0 ? 0 : code / span % radix;
        }
    }

    /** The PLAN: ENTRIES in their order. */
    private static final class Plan {
        int size;
        final int[] digits = new int[ENTRIES_MOST];
        final int[] prefix = new int[ENTRIES_MOST];
        final int[] hole = new int[ENTRIES_MOST];

        void copyFrom(Plan other) {
            size = other.size;
            System.arraycopy(other.digits, 0, digits, 0, ENTRIES_MOST);
            System.arraycopy(other.prefix, 0, prefix, 0, ENTRIES_MOST);
            System.arraycopy(other.hole, 0, hole, 0, ENTRIES_MOST);
        }

        boolean has(int entry) {
            return entry >= 0 && entry < size;
        }

        int find(int someDigits, int somePrefix) {
            for (int i = 0; i < size; i++) {
                if (digits[i] == someDigits && prefix[i] == somePrefix) {
                    return i;
                }
            }
            return NONE;
        }

        boolean canTake(int someDigits, int somePrefix) {
            return size < ENTRIES_MOST || find(someDigits, somePrefix) != NONE;
        }

        int put(int someDigits, int somePrefix, int someHole) {
            int at = find(someDigits, somePrefix);
            if (at == NONE) {
                if (size >= ENTRIES_MOST) {
                    return NONE;
                }
                at = size;
                size++;
                digits[at] = someDigits;
                prefix[at] = somePrefix;
            }
            hole[at] = someHole;
            return at;
        }

        void drop(int entry) {
            if (!has(entry)) {
                return;
            }
            size--;
            for (int i = entry; i < size; i++) {
                digits[i] = digits[i + 1];
                prefix[i] = prefix[i + 1];
                hole[i] = hole[i + 1];
            }
        }
    }

    /** All that ACTS change. */
    private static final class Work {
        final Plan plan = new Plan();
        int waiting;
        final int[] row = new int[WAITING_MOST];
        final int[] lying = new int[HOLES_MOST];
        final int[] bags = new int[HOLES_MOST];
        int lost;
        int turn;

        void clear() {
            plan.size = 0;
            waiting = 0;
            lost = 0;
            turn = 0;
            for (int hole = 0; hole < HOLES_MOST; hole++) {
                lying[hole] = 0;
                bags[hole] = 0;
            }
        }

        void copyFrom(Work other) {
            plan.copyFrom(other.plan);
            waiting = other.waiting;
            lost = other.lost;
            turn = other.turn;
            System.arraycopy(other.row, 0, row, 0, WAITING_MOST);
            System.arraycopy(other.lying, 0, lying, 0, HOLES_MOST);
            System.arraycopy(other.bags, 0, bags, 0, HOLES_MOST);
        }

        void queue(int code) {
            if (waiting < WAITING_MOST) {
                row[waiting] = code;
                waiting++;
            }
        }

        int takeOut(int place) {
            if (place < 0 || place >= waiting) {
                return NONE;
            }
            int code = row[place];
            waiting--;
            for (int i = place; i < waiting; i++) {
                row[i] = row[i + 1];
            }
            return code;
        }

        void bagUp(int hole) {
            bags[hole] = Math.min(bags[hole] + 1, BAGS_MOST);
            lying[hole] = 0;
        }

        int lyingInAll() {
            return sumOf(lying);
        }

        int bagsOfAll() {
            return sumOf(bags);
        }

        /** PENCE of a HOLE: its part downwards, and one of the rest if few enough lost more. */
        int shareOf(int much, int hole) {
            int all = bagsOfAll();
            if (all == 0) {
                return 0;
            }
            int left = much;
            int ahead = 0;
            int own = much * bags[hole] % all;
            for (int i = 0; i < HOLES_MOST; i++) {
                left -= much * bags[i] / all;
                int loss = much * bags[i] % all;
                if (loss > own || (loss == own && i < hole)) {
                    ahead++;
                }
            }
            int part = much * bags[hole] / all;
            return ahead < left ? part + 1 : part;
        }

        private static int sumOf(int[] row) {
            int sum = 0;
            for (int i = 0; i < row.length; i++) {
                sum += row[i];
            }
            return sum;
        }
    }

    /** All that an IMAGE keeps. */
    private static final class Desk {
        final Shape shape = new Shape();
        /** As the text told it. */
        final Work begin = new Work();
        final Work now = new Work();
        int inForce = NONE;
        int seed;
        int notes;
        final int[] noteTurn = new int[NOTES_MOST];
        final int[] noteHole = new int[NOTES_MOST];
        final int[] noteMany = new int[NOTES_MOST];

        void take(Shape told, Work toldWork) {
            shape.copyFrom(told);
            begin.copyFrom(toldWork);
            now.copyFrom(toldWork);
            notes = 0;
        }

        void copyFrom(Desk other) {
            shape.copyFrom(other.shape);
            begin.copyFrom(other.begin);
            now.copyFrom(other.now);
            inForce = other.inForce;
            seed = other.seed;
            notes = other.notes;
            System.arraycopy(other.noteTurn, 0, noteTurn, 0, NOTES_MOST);
            System.arraycopy(other.noteHole, 0, noteHole, 0, NOTES_MOST);
            System.arraycopy(other.noteMany, 0, noteMany, 0, NOTES_MOST);
        }

        void addNote(int turn, int hole, int many) {
            if (notes < NOTES_MOST) {
                noteTurn[notes] = turn;
                noteHole[notes] = hole;
                noteMany[notes] = many;
                notes++;
            }
        }

        int lastNotedTurn() {
            int last = NONE;
            for (int i = 0; i < notes; i++) {
                last = Math.max(last, noteTurn[i]);
            }
            return last;
        }

        /** Whether all NOTES of these TURNS are so by what lies in the HOLES. */
        boolean notesHold(int fromTurn, int toTurn, int[] lying) {
            for (int i = 0; i < notes; i++) {
                boolean asked = noteTurn[i] >= fromTurn && noteTurn[i] <= toTurn;
                if (asked && lying[noteHole[i]] != noteMany[i]) {
                    return false;
                }
            }
            return true;
        }
    }

    /** Where each CODE GOES by a PLAN, and what follows from that. */
    private static final class Chart {
        private static final int FAR = 10000;

        private Shape shape = new Shape();
        private Plan plan = new Plan();
        private final int[] entryOf = new int[CODES_MOST];
        private final int[] mark = new int[LONG_MOST];
        /** Of each node and each HOLE that is handed down to it (the last one: none). */
        private final int[] cost = new int[CODES_MOST * (HOLES_MOST + 1)];
        private final int[] costKept = new int[HOLES_MOST + 1];

        void draw(Shape newShape, Plan newPlan) {
            shape = newShape;
            plan = newPlan;
            for (int code = 0; code < shape.codes && code < CODES_MOST; code++) {
                entryOf[code] = NONE;
            }
            // longer ones are laid over shorter ones
            for (int digits = 0; digits <= shape.digits; digits++) {
                for (int entry = 0; entry < plan.size; entry++) {
                    if (plan.digits[entry] == digits) {
                        lay(entry);
                    }
                }
            }
        }

        private void lay(int entry) {
            int span = shape.spanOf(plan.digits[entry]);
            int from = plan.prefix[entry] * span;
            for (int code = from; code < from + span && code < CODES_MOST; code++) {
                entryOf[code] = entry;
            }
        }

        int entryFor(int code) {
            int entry = shape.hasCode(code) && code < CODES_MOST ? entryOf[code] : NONE;
            return plan.has(entry) ? entry : NONE;
        }

        int holeFor(int code) {
            int entry = entryFor(code);
            return entry == NONE ? LOST : plan.hole[entry];
        }

        /** DIGITS of the ENTRY by which it GOES; NONE if it is LOST. */
        int digitsFor(int code) {
            int entry = entryFor(code);
            return entry == NONE ? NONE : plan.digits[entry];
        }

        int howManyTo(int hole) {
            int many = 0;
            for (int code = 0; code < shape.codes; code++) {
                if (holeFor(code) == hole) {
                    many++;
                }
            }
            return many;
        }

        int leastTo(int hole) {
            for (int code = 0; code < shape.codes; code++) {
                if (holeFor(code) == hole) {
                    return code;
                }
            }
            return MISSING;
        }

        boolean takeReading(int reading) {
            if (shape.codes == 0 || reading < 0) {
                return false;
            }
            int rest = reading;
            for (int place = shape.digits - 1; place >= 0; place--) {
                mark[place] = rest % 10;
                rest = rest / 10;
                if (mark[place] != SMUDGED && mark[place] >= shape.radix) {
                    return false;
                }
            }
            return rest == 0;
        }

        private boolean isMeant(int code) {
            for (int place = 0; place < shape.digits; place++) {
                if (mark[place] != SMUDGED && mark[place] != shape.digitOf(code, place)) {
                    return false;
                }
            }
            return true;
        }

        int meantHoles() {
            int bits = 0;
            for (int code = 0; code < shape.codes; code++) {
                if (isMeant(code)) {
                    int hole = holeFor(code);
                    bits |= hole == LOST ? LOST_BIT : 1 << hole;
                }
            }
            return bits;
        }

        /** A digit that can send it elsewhere must be read, whatever else is; no other one must. */
        int setToRead() {
            int set = 0;
            for (int place = 0; place < shape.digits; place++) {
                if (mark[place] == SMUDGED && decides(place)) {
                    set |= 1 << place;
                }
            }
            return set;
        }

        private boolean decides(int place) {
            int span = shape.spanOf(place + 1);
            for (int code = 0; code < shape.codes; code++) {
                int withZero = code - shape.digitOf(code, place) * span;
                if (isMeant(code) && holeFor(code) != holeFor(withZero)) {
                    return true;
                }
            }
            return false;
        }

        int slipsOf(int code) {
            int slips = 0;
            int hole = holeFor(code);
            for (int place = 0; place < shape.digits; place++) {
                int span = shape.spanOf(place + 1);
                int base = code - shape.digitOf(code, place) * span;
                for (int digit = 0; digit < shape.radix; digit++) {
                    if (holeFor(base + digit * span) != hole) {
                        slips++;
                    }
                }
            }
            return slips;
        }

        int mostSlipping() {
            int worst = 0;
            int most = slipsOf(0);
            for (int code = 1; code < shape.codes; code++) {
                int slips = slipsOf(code);
                if (slips > most) {
                    most = slips;
                    worst = code;
                }
            }
            return worst;
        }

        int idleEntries() {
            int idle = (1 << plan.size) - 1;
            for (int code = 0; code < shape.codes; code++) {
                int entry = entryFor(code);
                if (entry != NONE) {
                    idle &= ~(1 << entry);
                }
            }
            return idle;
        }

        /**
         * From the CODES up to the PREFIX of no digit: what a node and all below it cost, if the
         * ENTRIES above it hand a HOLE down to it. A LOST CODE can't be saved once one is.
         */
        int fewestEntries() {
            int wide = HOLES_MOST + 1;
            for (int code = 0; code < shape.codes && code < CODES_MOST; code++) {
                int hole = holeFor(code);
                for (int given = 0; given < wide; given++) {
                    boolean asIs = hole == (given == HOLES_MOST ? LOST : given);
                    cost[code * wide + given] = asIs ? 0 : hole == LOST ? FAR : 1;
                }
            }
            for (int digits = shape.digits - 1; digits >= 0; digits--) {
                for (int prefix = 0; prefix < shape.prefixesOf(digits); prefix++) {
                    joinCosts(prefix);
                }
            }
            return cost[HOLES_MOST];
        }

        /** A node lies where its first child lay or before it, so costs still asked for stay. */
        private void joinCosts(int node) {
            int wide = HOLES_MOST + 1;
            int cheapest = FAR;
            for (int given = 0; given < wide; given++) {
                int sum = 0;
                for (int digit = 0; digit < shape.radix; digit++) {
                    sum += cost[(node * shape.radix + digit) * wide + given];
                }
                costKept[given] = Math.min(sum, FAR);
                if (given < shape.holes) {
                    cheapest = Math.min(cheapest, costKept[given]);
                }
            }
            for (int given = 0; given < wide; given++) {
                cost[node * wide + given] = Math.min(costKept[given], Math.min(cheapest + 1, FAR));
            }
        }
    }

    /** Makes TURNS on a copy. */
    private static final class Runner {
        private static final long DRAW_FACTOR = 1103515245L;
        private static final long DRAW_MORE = 12345L;
        private static final long DRAW_RANGE = 2147483648L;
        private static final int DRAW_PART = 65536;

        final Shape shape = new Shape();
        final Work work = new Work();
        int seed;
        private final Chart chart;
        private final long[] words = new long[WORDS];
        /** Which HOLE was TIED in the last TURN. */
        private int justTied = NONE;

        Runner(Chart chart) {
            this.chart = chart;
        }

        void start(Shape newShape, Work newWork) {
            shape.copyFrom(newShape);
            work.copyFrom(newWork);
            chart.draw(shape, work.plan);
        }

        /** A TURN: the CODE that was taken, or NONE. */
        int step(Rule rule) {
            int code = work.takeOut(choose(rule));
            justTied = NONE;
            work.turn++;
            if (code != NONE) {
                lay(chart.holeFor(code));
            }
            return code;
        }

        private void lay(int hole) {
            if (!shape.hasHole(hole)) {
                work.lost++;
                return;
            }
            if (work.lying[hole] >= shape.room[hole]) {
                work.bagUp(hole);
                justTied = hole;
            }
            work.lying[hole]++;
        }

        private int choose(Rule rule) {
            if (rule == null) {
                return work.waiting > 0 ? 0 : NONE;
            }
            words[WAITING] = work.waiting;
            words[BAGS] = work.bagsOfAll();
            words[TURN] = work.turn;
            int best = NONE;
            long most = 0;
            for (int place = 0; place < work.waiting; place++) {
                describe(place);
                long worth = rule.worth(words);
                if (worth > most) {
                    most = worth;
                    best = place;
                }
            }
            return best;
        }

        private void describe(int place) {
            int code = work.row[place];
            int entry = chart.entryFor(code);
            boolean goes = entry != NONE;
            int hole = goes ? work.plan.hole[entry] : LOST;
            words[PLACE] = place;
            words[CODE] = code;
            words[FIRST] = shape.digitOf(code, 0);
            words[LAST] = shape.digitOf(code, shape.digits - 1);
            words[HOLE] = hole;
            words[LYING] = goes ? work.lying[hole] : 0;
            words[ROOM] = goes ? shape.room[hole] : 0;
            words[FIT] = goes ? work.plan.digits[entry] : 0;
        }

        /** Once none waits, nothing but the TURN would change. */
        void steps(Rule rule, int turns) {
            for (int i = 0; i < turns && work.waiting > 0; i++) {
                step(rule);
            }
        }

        int turnOfSorting(Rule rule) {
            for (int i = 0; i < SEEN_TURNS; i++) {
                int turn = work.turn;
                step(rule);
                if (work.waiting == 0) {
                    return turn;
                }
            }
            return MISSING;
        }

        int turnOfTying(Rule rule, int hole, int turns) {
            for (int i = 0; i < turns && work.waiting > 0; i++) {
                int turn = work.turn;
                step(rule);
                if (justTied == hole) {
                    return turn;
                }
            }
            return MISSING;
        }

        /** Whether all NOTES are so, if it goes on from TURN 0 as the copy is. */
        boolean agrees(Desk desk, Rule rule) {
            int last = desk.lastNotedTurn();
            for (int turn = 0; turn <= last && work.waiting > 0; turn++) {
                step(rule);
                if (!desk.notesHold(turn, turn, work.lying)) {
                    return false;
                }
            }
            return desk.notesHold(work.turn, NOTE_TURN_MOST, work.lying);
        }

        void stepsWithPosts(Rule rule, int turns, int percent) {
            for (int i = 0; i < turns; i++) {
                if (draw() % 100 < percent) {
                    work.queue(shape.codes > 0 ? draw() % shape.codes : 0);
                }
                step(rule);
            }
        }

        private int draw() {
            seed = (int) ((seed * DRAW_FACTOR + DRAW_MORE) % DRAW_RANGE);
            return seed / DRAW_PART;
        }
    }

    /** The best ENTRY more, the best change of HOLES, the best HOLE to look into. */
    private static final class Advice {
        int lost;
        int bags;
        int digits;
        int prefix;
        int hole;
        int otherHole;
        int sights;
        int alike;
        private final Chart chart;
        private final int[] goal = new int[WAITING_MOST];
        private final int[] lying = new int[HOLES_MOST];
        private final int[][] sight = new int[RULES_MOST + 1][HOLES_MOST];
        private int trialLost;
        private int trialBags;

        Advice(Chart chart) {
            this.chart = chart;
        }

        /** All that wait are taken at once, each to its goal. */
        private void tryGoals(Shape shape, Work work) {
            trialLost = 0;
            trialBags = 0;
            System.arraycopy(work.lying, 0, lying, 0, HOLES_MOST);
            for (int place = 0; place < work.waiting; place++) {
                int to = goal[place];
                if (!shape.hasHole(to)) {
                    trialLost++;
                    continue;
                }
                if (lying[to] >= shape.room[to]) {
                    trialBags++;
                    lying[to] = 0;
                }
                lying[to]++;
            }
        }

        private void tryAsIs(Shape shape, Work work) {
            for (int place = 0; place < work.waiting; place++) {
                goal[place] = chart.holeFor(work.row[place]);
            }
            tryGoals(shape, work);
            lost = trialLost;
            bags = trialBags;
            digits = NONE;
            prefix = NONE;
            hole = NONE;
            otherHole = NONE;
        }

        void seekEntry(Shape shape, Work work) {
            tryAsIs(shape, work);
            for (int many = 0; many <= shape.digits; many++) {
                for (int some = 0; some < shape.prefixesOf(many); some++) {
                    if (work.plan.canTake(many, some)) {
                        tryPrefix(shape, work, many, some);
                    }
                }
            }
        }

        private void tryPrefix(Shape shape, Work work, int many, int some) {
            for (int to = 0; to < shape.holes; to++) {
                if (!sendByEntry(shape, work, many, some, to)) {
                    return;
                }
                tryGoals(shape, work);
                if (trialLost < lost || (trialLost == lost && trialBags < bags)) {
                    lost = trialLost;
                    bags = trialBags;
                    digits = many;
                    prefix = some;
                    hole = to;
                }
            }
        }

        /** Sets the goals; false if no LETTER that waits would GO by the ENTRY. */
        private boolean sendByEntry(Shape shape, Work work, int many, int some, int to) {
            boolean any = false;
            for (int place = 0; place < work.waiting; place++) {
                int code = work.row[place];
                goal[place] = chart.holeFor(code);
                if (shape.prefixOf(code, many) == some && chart.digitsFor(code) <= many) {
                    goal[place] = to;
                    any = true;
                }
            }
            return any;
        }

        void seekChange(Shape shape, Work work) {
            tryAsIs(shape, work);
            for (int one = 0; one < shape.holes; one++) {
                for (int other = one + 1; other < shape.holes; other++) {
                    sendChanged(work, one, other);
                    tryGoals(shape, work);
                    if (trialBags < bags) {
                        bags = trialBags;
                        hole = one;
                        otherHole = other;
                    }
                }
            }
        }

        private void sendChanged(Work work, int one, int other) {
            for (int place = 0; place < work.waiting; place++) {
                int to = chart.holeFor(work.row[place]);
                goal[place] = to == one ? other : to == other ? one : to;
            }
        }

        void addSight(int[] seen) {
            if (sights < sight.length) {
                System.arraycopy(seen, 0, sight[sights], 0, HOLES_MOST);
                sights++;
            }
        }

        void seekSight(int holes) {
            hole = 0;
            alike = mostAlike(0);
            for (int other = 1; other < holes; other++) {
                int most = mostAlike(other);
                if (most < alike) {
                    alike = most;
                    hole = other;
                }
            }
        }

        private int mostAlike(int where) {
            int most = 0;
            for (int i = 0; i < sights; i++) {
                int same = 0;
                for (int j = 0; j < sights; j++) {
                    if (sight[j][where] == sight[i][where]) {
                        same++;
                    }
                }
                most = Math.max(most, same);
            }
            return most;
        }
    }
}
