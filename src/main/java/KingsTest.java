import java.util.Arrays;

/**
 * Whose is the living one: two claim one child, tests are heard, marks are seen, it is judged.
 * The promises of ../shared/DOC.md are named in README.md; the words here are the document's.
 */
public final class KingsTest {
    /** There is none; it is refused. */
    public static final int NONE = -1;
    /** Told where a number below 0 may be one. */
    public static final long NOTHING = -1000000000000000L;

    private static final int MOST_BYTES = 1600;
    private static final int MOST_KINDS = 6;
    private static final int MOST_TESTS = 6;
    private static final int MOST_MARKS = 5;
    private static final int MOST_STATEMENTS = 60;
    private static final int MOST_OPEN = 6;
    private static final int MOST_CASES = 9999;
    private static final int MOST_HARM = 9999;
    private static final int MOST_TIMES = 99;
    private static final int MOST_UNDONE = 20;
    private static final int MOST_KEPT = 40;
    private static final int MOST_ROWS = 16;
    private static final int MOST_AHEAD = 30;
    private static final int MILLION = 1000000;
    private static final int NAME_LETTERS = 6;
    private static final int FIRST_CHECK = 61;
    // 20 acts of 30 cases each may be undone, and 40 rows ahead of them are told again then
    private static final int KEPT_ROOM = 1024;

    private static final String OWN_WORDS =
        "kind love wit true false test harm mark yields first price heard truth number merit sure or and not all min max";
    // these may be NAMES, too
    private static final String ASKING_WORDS = "last often total most least";
    // the words by their places in the one text, then in the other
    private static final int KIND = 0;
    private static final int LOVE = 1;
    private static final int WIT = 2;
    private static final int TRUE = 3;
    private static final int FALSE = 4;
    private static final int TEST = 5;
    private static final int HARM = 6;
    private static final int MARK = 7;
    private static final int YIELDS = 8;
    private static final int FIRST = 9;
    private static final int PRICE = 10;
    private static final int HEARD = 11;
    private static final int TRUTH = 12;
    private static final int NUMBER = 13;
    private static final int MERIT = 14;
    private static final int SURE = 15;
    private static final int OR = 16;
    private static final int AND = 17;
    private static final int NOT = 18;
    private static final int ALL = 19;
    private static final int MIN = 20;
    private static final int MAX = 21;
    private static final int OWN_COUNT = 22;
    private static final int LAST = 22;
    private static final int OFTEN = 23;
    private static final int TOTAL = 24;
    private static final int MOST = 25;
    private static final int LEAST = 26;
    private static final int WORD_COUNT = 27;
    // behind the values by word stand those of "yields PART", by KIND
    private static final int VALUE_COUNT = WORD_COUNT + MOST_KINDS;

    // what status() counts
    private static final int OF_TAPE = 0;
    private static final int OF_TEXT = 1;
    private static final int OF_ACT = 2;
    private static final int OF_CHANCE = 3;
    private static final int OF_UNDO = 4;
    private static final int OF_SEED_OR_IMAGE = 5;

    private final Tape tape = new Tape();
    private final Question question = new Question();
    // its FAULT is that of the latest court() or ask(), for it reads for these alone
    private final Reader reader = new Reader(tape);
    private final Grammar grammar = new Grammar(reader, question.code);
    private final CourtReader courtReader = new CourtReader(reader, grammar);
    private Court court = new Court();
    // a text with a FAULT must leave THE COURT as it is, so it is read into another one
    private Court spareCourt = new Court();
    private final State state = new State();
    private final State trial = new State();
    private final Past past = new Past();
    private final Ahead coming = new Ahead();
    private final Worlds worlds = new Worlds();
    private final int[] answered = new int[MOST_ROWS * 4];
    private int answeredRows = 0;
    private int drawn = 1;
    private final int[] imageBytes = new int[5 + 2 * MOST_TESTS + 2 * MOST_MARKS];
    private int imageLength = 0;
    private final int[] refused = new int[6];

    /** No KINDS, no tests. */
    public KingsTest() {
    }

    // ---- the tape

    /** Twenty bytes come behind those on the tape: how many there are. */
    public int feed(int a, int b, int c, int d, int e) {
        if (tape.length + 20 > MOST_BYTES) {
            return refuse(OF_TAPE);
        }
        tape.addNumber(a);
        tape.addNumber(b);
        tape.addNumber(c);
        tape.addNumber(d);
        tape.addNumber(e);
        return tape.length;
    }

    /** The tape has its first n bytes alone. */
    public boolean end(int n) {
        if (n < 0 || n > tape.length) {
            refuse(OF_TAPE);
            return false;
        }
        tape.length = n;
        return true;
    }

    // ---- the court

    /** The tape is THE COURT: how many STATEMENTS. */
    public int court() {
        int statements = courtReader.readInto(spareCourt);
        tape.length = 0;
        if (reader.fault != 0) {
            return refuse(OF_TEXT);
        }
        Court old = court;
        court = spareCourt;
        spareCourt = old;
        state.clear();
        answeredRows = 0;
        past.count = 0;
        coming.count = 0;
        return statements;
    }

    /** The FAULT of the latest court() or ask() (0), its place (1). */
    public int fault(int what) {
        return what == 0 ? reader.fault : what == 1 ? reader.place : NONE;
    }

    /** How many there are. */
    public int has(int what) {
        switch (what) {
            case 0:
                return court.kinds;
            case 1:
                return court.tests;
            case 2:
                return court.marks;
            case 3:
                return court.first;
            case 4:
                return state.cases;
            case 5:
                return state.harm;
            case 6:
                return Integer.bitCount(state.heardBits());
            case 7:
                return state.lookedCount();
            case 8:
                return keptCount();
            case 9:
                return answeredRows;
            case 10:
                return past.count;
            default:
                return NONE;
        }
    }

    /** A letter of the NAME of a KIND (0), a test (1), a MARK (2). */
    public int letter(int kind, int which, int k) {
        int name = court.nameOf(kind, which);
        if (name == NONE || k < 0 || k >= NAME_LETTERS) {
            return NONE;
        }
        for (int behind = k + 1; behind < NAME_LETTERS; behind++) {
            name /= 27;
        }
        return name % 27;
    }

    /** Of a KIND: love, wit, how often one who is true, who is false is of it. */
    public int kind(int kind, int what) {
        return isKind(kind) && what >= 0 && what <= 3 ? court.kindRows[kind][what + 1] : NONE;
    }

    /** Of a test: its harm, in how many cases it was HEARD, how it was in this one. */
    public int test(int test, int what) {
        if (!isTest(test)) {
            return NONE;
        }
        switch (what) {
            case 0:
                return court.testRows[test][1];
            case 1:
                return state.times[test];
            case 2:
                return state.answers[test];
            default:
                return NONE;
        }
    }

    /** Of a MARK: how often it is seen at one who is true, false; how it was at CLAIMANT 0, 1. */
    public int mark(int mark, int what) {
        if (!isMark(mark) || what < 0 || what > 3) {
            return NONE;
        }
        return what < 2 ? court.markRows[mark][what + 1] : state.looks[mark * 2 + what - 2];
    }

    /** Whether a KIND yields at a test now, when true (1), false (0). */
    public int yields(int kind, int test, int truth) {
        if (!isKind(kind) || !isTest(test) || !isBit(truth)) {
            return NONE;
        }
        return court.yieldBits(test, state.times[test]) >> (kind * 2 + truth) & 1;
    }

    /** Of what is told as KEPT, the k-th from the oldest on. */
    public int kept(int k, int what) {
        int told = keptCount();
        if (k < 0 || k >= told || what < 0 || what > 3) {
            return NONE;
        }
        return past.cell(state.kept - told + k, what);
    }

    // ---- odds

    /** WEIGHT of a WORLD now. */
    public long weight(int truth, int zero, int one) {
        if (!isBit(truth) || !isKind(zero) || !isKind(one)) {
            return NOTHING;
        }
        worlds.weigh(court, state);
        return worlds.weightOf(truth, zero, one);
    }

    /** ODDS that a CLAIMANT is true, in millionths. */
    public int odds(int claimant) {
        if (!isBit(claimant)) {
            return NONE;
        }
        worlds.weigh(court, state);
        return worlds.share(worlds.sumOf(claimant));
    }

    /** ODDS that a CLAIMANT is of a KIND, in millionths. */
    public int kinds(int claimant, int kind) {
        if (!isBit(claimant) || !isKind(kind)) {
            return NONE;
        }
        worlds.weigh(court, state);
        return worlds.share(worlds.sumOfKind(claimant, kind));
    }

    /** ODDS that a CLAIMANT would yield at a test now, in millionths. */
    public int would(int claimant, int test) {
        if (!isBit(claimant) || !isTest(test)) {
            return NONE;
        }
        worlds.weigh(court, state);
        return worlds.share(worlds.sumOfYielding(claimant, test));
    }

    // ---- tests

    /** MERIT of a set of tests, as bits. */
    public long merit(int tests) {
        if (tests < 0 || tests >= 1 << court.tests || (tests & state.heardBits()) != 0) {
            return NOTHING;
        }
        worlds.weigh(court, state);
        return worlds.total() == 0 ? NOTHING : worlds.meritOf(court, tests);
    }

    /** The BEST SET, as bits. */
    public int best() {
        worlds.weigh(court, state);
        return worlds.bestSet(court, state.heardBits());
    }

    /** Whether a test PARTS them now (0); the KINDS by which it FAILS (1, 2). */
    public int parts(int test, int what) {
        if (!isTest(test) || state.answers[test] != 0 || what < 0 || what > 2) {
            return NONE;
        }
        worlds.weigh(court, state);
        int failing = worlds.failingWorld(test);
        if (what == 0) {
            return failing == NONE ? 1 : 0;
        }
        if (failing == NONE) {
            return NONE;
        }
        return worlds.kindIn(failing, what - 1);
    }

    /** SURE: the set as bits (0), its harm (1). */
    public int sure(int what) {
        if (!isBit(what)) {
            return NONE;
        }
        worlds.weigh(court, state);
        int set = worlds.sureSet(court, state.heardBits());
        return set == NONE || what == 0 ? set : court.harmOf(set);
    }

    // ---- cases to come

    /** In the n-th case AHEAD: the BEST SET (0), RIGHT by it (1), harm (2). */
    public int ahead(int n, int what) {
        if (n < 0 || n >= MOST_AHEAD || what < 0 || what > 2) {
            return NONE;
        }
        lookAhead(n + 1);
        int set = coming.sets[n];
        if (set == NONE || what == 0) {
            return set;
        }
        return what == 1 ? coming.rights[n] : court.harmOf(set);
    }

    /** KNOWN: RIGHT by a test HEARD in so many cases, in millionths. */
    public int known(int test, int heard) {
        if (!isTest(test) || heard < 0 || heard > MOST_TIMES) {
            return NONE;
        }
        trial.clear();
        trial.times[test] = heard;
        worlds.weigh(court, trial);
        return worlds.share(worlds.rightOf(1 << test));
    }

    // ---- which test it was

    /** The tape tells what is ANSWERED: how many rows. */
    public int tell() {
        boolean fits = isAnswered();
        int length = tape.length;
        tape.length = 0;
        if (!fits) {
            return refuse(OF_TEXT);
        }
        for (int i = 0; i < length && i < answered.length; i++) {
            answered[i] = tape.byteAt(i);
        }
        answeredRows = length / 4;
        return answeredRows;
    }

    /** By what is ANSWERED: which tests it can be, as bits. */
    public int trick() {
        int set = 0;
        for (int test = 0; test < court.tests; test++) {
            if (explainsAnswers(test)) {
                set |= 1 << test;
            }
        }
        return set;
    }

    // ---- acts

    /** A test is HEARD, whether 0 yields, 1 yields. */
    public boolean hear(int test, int zero, int one) {
        if (!canHear(test, zero, one)) {
            refuse(OF_ACT);
            return false;
        }
        beginAct();
        state.answers[test] = 1 + zero + 2 * one;
        return true;
    }

    /** A MARK is LOOKED for at a CLAIMANT, seen or not. */
    public boolean look(int mark, int claimant, int seen) {
        boolean can = isMark(mark) && isBit(claimant) && isBit(seen);
        if (!can || state.looks[mark * 2 + claimant] != 0) {
            refuse(OF_ACT);
            return false;
        }
        beginAct();
        state.looks[mark * 2 + claimant] = 1 + seen;
        return true;
    }

    /** The case is JUDGED for a CLAIMANT: how many cases so far. */
    public int judge(int claimant) {
        if (!isBit(claimant) || state.cases >= MOST_CASES) {
            return refuse(OF_ACT);
        }
        beginAct();
        closeCase(claimant, 2);
        return state.cases;
    }

    /** n CASES by the seed, one ACT: how many were judged right. */
    public int chance(int n) {
        if (n < 1 || n > 30 || state.cases + n > MOST_CASES) {
            return refuse(OF_CHANCE);
        }
        beginAct();
        state.forgetCase();
        int right = 0;
        for (int i = 0; i < n; i++) {
            right += caseBySeed();
        }
        return right;
    }

    /** The latest ACT is undone. */
    public boolean undo() {
        if (past.count == 0) {
            refuse(OF_UNDO);
            return false;
        }
        past.giveBack(state);
        coming.count = 0;
        return true;
    }

    /** The seed. */
    public boolean seed(int seed) {
        if (seed < 0) {
            refuse(OF_SEED_OR_IMAGE);
            return false;
        }
        drawn = seed;
        return true;
    }

    // ---- questions

    /** The tape is a QUESTION: its answer. */
    public long ask() {
        int asked = grammar.readQuestion(question.code);
        tape.length = 0;
        if (reader.fault != 0) {
            return NOTHING;
        }
        worlds.weigh(court, state);
        question.begin(asked);
        for (int test = 0; test < court.tests; test++) {
            question.setValues(court, state, worlds, test);
            question.take(test);
        }
        return question.answer;
    }

    // ---- images, refusals

    /** AN IMAGE is written: how many bytes. */
    public int image() {
        imageLength = 0;
        addToImage(state.cases >> 8);
        addToImage(state.cases & 255);
        addToImage(state.harm >> 8);
        addToImage(state.harm & 255);
        for (int test = 0; test < court.tests; test++) {
            addToImage(state.times[test]);
            addToImage(state.answers[test]);
        }
        for (int i = 0; i < 2 * court.marks; i++) {
            addToImage(state.looks[i]);
        }
        int check = FIRST_CHECK;
        for (int i = 0; i < imageLength; i++) {
            check = checkBehind(check, imageBytes[i]);
        }
        addToImage(check);
        return imageLength;
    }

    /** Byte k of the latest image(). */
    public int octet(int k) {
        return k >= 0 && k < imageLength ? imageBytes[k] : NONE;
    }

    /** The tape is AN IMAGE of this COURT. */
    public boolean on() {
        boolean fits = isImage();
        if (fits) {
            takeImage();
        } else {
            refuse(OF_SEED_OR_IMAGE);
        }
        tape.length = 0;
        return fits;
    }

    /** How many were refused. */
    public int status(int what) {
        return what >= 0 && what < refused.length ? refused[what] : NONE;
    }

    // ---- what the calls share

    private int refuse(int sort) {
        refused[sort]++;
        return NONE;
    }

    private boolean isKind(int kind) {
        return kind >= 0 && kind < court.kinds;
    }

    private boolean isTest(int test) {
        return test >= 0 && test < court.tests;
    }

    private boolean isMark(int mark) {
        return mark >= 0 && mark < court.marks;
    }

    private static boolean isBit(int number) {
        return number == 0 || number == 1;
    }

    private int keptCount() {
        return Math.min(state.kept, MOST_KEPT);
    }

    // floor of a part's millionths, digit by digit: the product with a million would overflow
    private static int millionths(long part, long whole) {
        if (whole <= 0) {
            return NONE;
        }
        long told = part / whole;
        long left = part % whole;
        for (int digit = 0; digit < 6; digit++) {
            told = told * 10 + left * 10 / whole;
            left = left * 10 % whole;
        }
        return (int) told;
    }

    private void beginAct() {
        past.keep(state);
        coming.count = 0;
    }

    private boolean canHear(int test, int zero, int one) {
        if (!isTest(test) || !isBit(zero) || !isBit(one) || state.answers[test] != 0) {
            return false;
        }
        trial.copyFrom(state);
        trial.answers[test] = 1 + zero + 2 * one;
        worlds.weigh(court, trial);
        return worlds.total() > 0;
    }

    private void closeCase(int claimant, int right) {
        int heard = state.heardBits();
        int harm = court.harmOf(heard);
        past.put(state.kept, claimant, harm, Integer.bitCount(heard), right);
        state.kept++;
        state.hearOnceMore(heard);
        state.harm = Math.min(MOST_HARM, state.harm + harm);
        state.cases++;
        state.forgetCase();
    }

    // 1 if the case was judged right
    private int caseBySeed() {
        int truth = draw(100) < court.first ? 0 : 1;
        int zero = drawKind(truth == 0);
        if (zero == NONE) {
            return 0;
        }
        int one = drawKind(truth == 1);
        if (one == NONE) {
            return 0;
        }
        worlds.weigh(court, state);
        int set = worlds.bestSet(court, 0);
        for (int test = 0; test < court.tests; test++) {
            if ((set >> test & 1) != 0) {
                int yielded = worlds.answerIn(truth, zero, one, test);
                state.answers[test] = 1 + yielded;
            }
        }
        worlds.weigh(court, state);
        int judged = worlds.sumOf(0) >= worlds.sumOf(1) ? 0 : 1;
        int right = judged == truth ? 1 : 0;
        closeCase(judged, right);
        return right;
    }

    private int draw(int most) {
        drawn = 1103515245 * drawn + 12345 & 0x7FFFFFFF;
        return most > 0 ? (drawn >> 6) % most : 0;
    }

    // NONE, and no DRAW, if nobody of that truth is of any KIND
    private int drawKind(boolean isTrue) {
        int column = isTrue ? 3 : 4;
        int sum = 0;
        for (int kind = 0; kind < court.kinds; kind++) {
            sum += court.kindRows[kind][column];
        }
        if (sum == 0) {
            return NONE;
        }
        int left = draw(sum);
        for (int kind = 0; kind < court.kinds; kind++) {
            left -= court.kindRows[kind][column];
            if (left < 0) {
                return kind;
            }
        }
        return NONE;
    }

    // works out the cases AHEAD up to so many; they stand until the state changes
    private void lookAhead(int most) {
        if (coming.count == 0) {
            coming.times.copyFrom(state);
            coming.times.hearOnceMore(state.heardBits());
            coming.times.forgetCase();
        }
        for (int n = coming.count; n < most && n < MOST_AHEAD; n++) {
            worlds.weigh(court, coming.times);
            int set = worlds.bestSet(court, 0);
            coming.sets[n] = set;
            coming.rights[n] = set == NONE ? NONE : worlds.share(worlds.rightOf(set));
            coming.times.hearOnceMore(set == NONE ? 0 : set);
            coming.count = n + 1;
        }
    }

    private boolean isAnswered() {
        int length = tape.length;
        if (length == 0 || length % 4 != 0 || length > answered.length) {
            return false;
        }
        for (int i = 0; i < length; i++) {
            int most = i % 4 < 2 ? court.kinds : 2;
            if (tape.byteAt(i) >= most) {
                return false;
            }
        }
        return true;
    }

    private boolean explainsAnswers(int test) {
        int bits = court.yieldBits(test, state.times[test]);
        for (int row = 0; row < answeredRows; row++) {
            int ofTrue = bits >> (answered[row * 4] * 2 + 1) & 1;
            int ofFalse = bits >> (answered[row * 4 + 1] * 2) & 1;
            if (ofTrue != answered[row * 4 + 2] || ofFalse != answered[row * 4 + 3]) {
                return false;
            }
        }
        return true;
    }

    private static int checkBehind(int check, int octet) {
        return (3 * check + octet) % 251;
    }

    private void addToImage(int octet) {
        if (imageLength < imageBytes.length) {
            imageBytes[imageLength] = octet;
            imageLength++;
        }
    }

    private boolean isImage() {
        int tests = court.tests;
        int length = 5 + 2 * tests + 2 * court.marks;
        if (tape.length != length || tape.pairAt(0) > MOST_CASES || tape.pairAt(2) > MOST_HARM) {
            return false;
        }
        for (int i = 4; i < length - 1; i++) {
            boolean ofTest = i < 4 + 2 * tests;
            int most = !ofTest ? 2 : i % 2 == 0 ? MOST_TIMES : 4;
            if (tape.byteAt(i) > most) {
                return false;
            }
        }
        int check = FIRST_CHECK;
        for (int i = 0; i < length - 1; i++) {
            check = checkBehind(check, tape.byteAt(i));
        }
        return tape.byteAt(length - 1) == check;
    }

    private void takeImage() {
        state.clear();
        state.cases = tape.pairAt(0);
        state.harm = tape.pairAt(2);
        for (int test = 0; test < court.tests; test++) {
            state.times[test] = tape.byteAt(4 + 2 * test);
            state.answers[test] = tape.byteAt(5 + 2 * test);
        }
        for (int i = 0; i < 2 * court.marks; i++) {
            state.looks[i] = tape.byteAt(4 + 2 * court.tests + i);
        }
        past.count = 0;
        coming.count = 0;
    }

    /** The bytes that are fed. */
    private static final class Tape {
        private final byte[] bytes = new byte[MOST_BYTES];
        private int length = 0;

        void addNumber(int number) {
            for (int shift = 24; shift >= 0; shift -= 8) {
                if (length < bytes.length) {
                    bytes[length] = (byte) (number >> shift);
                    length++;
                }
            }
        }

        // what has gone from the tape can still be read until more is fed
        int byteAt(int k) {
            return k >= 0 && k < bytes.length ? bytes[k] & 255 : 0;
        }

        int pairAt(int k) {
            return byteAt(k) << 8 | byteAt(k + 1);
        }
    }

    /** Reads the tape word by word; stands still at the first FAULT. */
    private static final class Reader {
        private static final int BEGUN = 0;
        private static final int END = 1;
        private static final int A_WORD = 2;
        private static final int A_NUMBER = 3;
        private static final int A_SIGN = 4;
        // a word or number right behind another one: it fits nowhere
        private static final int GLUED = 5;
        // once stopped, nothing fits, so whatever reads comes to its end by itself
        private static final int STOPPED = 6;

        private final Tape tape;
        private final int[] names = new int[WORD_COUNT];
        private int position = 0;
        private int sort = BEGUN;
        private int start = 0;
        private int size = 0;
        private int value = 0;
        private int fault = 0;
        private int place = NONE;

        Reader(Tape tape) {
            this.tape = tape;
            learn(OWN_WORDS, 0);
            learn(ASKING_WORDS, OWN_COUNT);
        }

        private void learn(String words, int from) {
            int word = from;
            int letters = 0;
            for (int i = 0; i <= words.length() && word < names.length; i++) {
                if (i < words.length() && words.charAt(i) != ' ') {
                    names[word] = names[word] * 27 + letterOf(words.charAt(i));
                    letters++;
                } else {
                    names[word] = filledUp(names[word], letters);
                    word++;
                    letters = 0;
                }
            }
        }

        void begin() {
            position = 0;
            sort = BEGUN;
            fault = 0;
            place = NONE;
            next();
        }

        void next() {
            if (sort == STOPPED) {
                return;
            }
            boolean wasWhole = sort == A_WORD || sort == A_NUMBER;
            int behind = position;
            while (position < tape.length && isBlank(tape.byteAt(position))) {
                position++;
            }
            start = position;
            size = 0;
            value = 0;
            if (position >= tape.length) {
                sort = END;
            } else if (isLetter(tape.byteAt(position))) {
                readWord();
            } else if (isDigit(tape.byteAt(position))) {
                readNumber();
            } else {
                sort = A_SIGN;
                value = tape.byteAt(position);
                position++;
            }
            boolean isWhole = sort == A_WORD || sort == A_NUMBER;
            if (wasWhole && isWhole && start == behind) {
                sort = GLUED;
            }
        }

        void stop(int faultThere, int placeOfIt) {
            if (sort != STOPPED) {
                fault = faultThere;
                place = placeOfIt;
                sort = STOPPED;
            }
        }

        boolean goesOn() {
            return sort != END && sort != STOPPED;
        }

        boolean isAt(int word) {
            return sort == A_WORD && value == names[word];
        }

        boolean isAtSign(int sign) {
            return sort == A_SIGN && value == sign;
        }

        // which word is here
        int wordHere() {
            if (sort == A_WORD) {
                for (int word = 0; word < names.length; word++) {
                    if (names[word] == value) {
                        return word;
                    }
                }
            }
            return NONE;
        }

        void takeWord(int word) {
            if (isAt(word)) {
                next();
            } else {
                stop(1, start);
            }
        }

        void takeSign(int sign) {
            if (isAtSign(sign)) {
                next();
            } else {
                stop(1, start);
            }
        }

        int takeNumber(int least, int most) {
            int number = value;
            if (sort != A_NUMBER) {
                stop(1, start);
            } else if (size > 4) {
                stop(1, start + 4);
            } else if (number < least || number > most) {
                stop(2, start);
            } else {
                next();
            }
            return number;
        }

        // the NAME here, not passed yet
        int nameHere() {
            int word = wordHere();
            if (sort != A_WORD || word >= 0 && word < OWN_COUNT) {
                stop(1, start);
            } else if (size > NAME_LETTERS) {
                stop(1, start + NAME_LETTERS);
            }
            return value;
        }

        // a NAME of up to six letters is one number, with 0 behind its letters; longer words are 0
        private void readWord() {
            sort = A_WORD;
            while (position < tape.length && isLetter(tape.byteAt(position))) {
                if (size < NAME_LETTERS) {
                    value = value * 27 + letterOf(tape.byteAt(position));
                }
                size++;
                position++;
            }
            value = size > NAME_LETTERS ? 0 : filledUp(value, size);
        }

        // the digits behind the fourth are a FAULT in any case
        private void readNumber() {
            sort = A_NUMBER;
            while (position < tape.length && isDigit(tape.byteAt(position))) {
                if (size < 4) {
                    value = value * 10 + tape.byteAt(position) - '0';
                }
                size++;
                position++;
            }
        }

        private static int filledUp(int name, int letters) {
            int filled = name;
            for (int i = letters; i < NAME_LETTERS; i++) {
                filled *= 27;
            }
            return filled;
        }

        private static boolean isBlank(int sign) {
            return sign == 10 || sign == 32;
        }

        private static boolean isLetter(int sign) {
            return sign >= 'a' && sign <= 'z';
        }

        private static boolean isDigit(int sign) {
            return sign >= '0' && sign <= '9';
        }

        private static int letterOf(int sign) {
            return sign - 'a' + 1;
        }
    }

    /** A TEST or SUM in steps: numbers as they are, words and signs below 0, each behind what it is of. */
    private static final class Code {
        // six open at once, each with less than six numbers waiting
        private static final int STACK_ROOM = 64;
        private static final int SIGNS = -100;

        private final int[] steps = new int[MOST_BYTES];
        private final int[] stack = new int[STACK_ROOM];
        private int size = 0;

        void addNumber(int number) {
            if (size < steps.length) {
                steps[size] = number;
                size++;
            }
        }

        void addWord(int word) {
            addNumber(-1 - word);
        }

        void addSign(int sign) {
            addNumber(SIGNS - sign);
        }

        // the number, or 1 and 0 for what holds and what does not
        int resultFor(int[] values) {
            int top = 0;
            for (int i = 0; i < size; i++) {
                int step = steps[i];
                int needed = needOf(step);
                if (top < needed || top - needed >= stack.length) {
                    return 0;
                }
                top -= needed;
                int one = needed > 0 ? stack[top] : 0;
                int other = needed > 1 ? stack[top + 1] : 0;
                stack[top] = resultOf(step, one, other, values);
                top++;
            }
            return top > 0 ? stack[top - 1] : 0;
        }

        // how many numbers a step is of
        private static int needOf(int step) {
            switch (step) {
                case -1 - NOT:
                case -1 - YIELDS:
                    return 1;
                case -1 - OR:
                case -1 - AND:
                case -1 - MIN:
                case -1 - MAX:
                    return 2;
                default:
                    return step < SIGNS ? 2 : 0;
            }
        }

        private static int resultOf(int step, int one, int other, int[] values) {
            switch (step) {
                case -1 - NOT:
                    return 1 - one;
                case -1 - YIELDS:
                    return one >= 0 && one < MOST_KINDS ? valueAt(values, WORD_COUNT + one) : 0;
                case -1 - OR:
                    return one | other;
                case -1 - AND:
                    return one & other;
                case -1 - MIN:
                    return Math.min(one, other);
                case -1 - MAX:
                    return Math.max(one, other);
                default:
                    if (step >= 0) {
                        return step;
                    }
                    return step < SIGNS ? signResult(SIGNS - step, one, other) : valueAt(values, -1 - step);
            }
        }

        private static int signResult(int sign, int one, int other) {
            long result;
            switch (sign) {
                case '<':
                    return one < other ? 1 : 0;
                case '>':
                    return one > other ? 1 : 0;
                case '=':
                    return one == other ? 1 : 0;
                case '+':
                    result = (long) one + other;
                    break;
                case '-':
                    result = (long) one - other;
                    break;
                case '*':
                    result = (long) one * other;
                    break;
                default:
                    result = other == 0 ? 0 : Math.floorDiv(one, other);
                    break;
            }
            return (int) Math.max(-MILLION, Math.min(MILLION, result));
        }

        private static int valueAt(int[] values, int k) {
            return k >= 0 && k < values.length ? values[k] : 0;
        }
    }

    /** Reads a TEST, a SUM, a QUESTION into steps. How many are open is carried along, as the depth. */
    private static final class Grammar {
        private final Reader reader;
        private Code code;
        private boolean inQuestion = false;

        Grammar(Reader reader, Code code) {
            this.reader = reader;
            this.code = code;
        }

        void writeTo(Code into, boolean forQuestion) {
            code = into;
            code.size = 0;
            inQuestion = forQuestion;
        }

        // the word that the QUESTION begins with
        int readQuestion(Code into) {
            writeTo(into, true);
            reader.begin();
            int asked = reader.wordHere();
            if (asked == FIRST || asked == LAST || asked == OFTEN) {
                reader.next();
                readTest(0);
            } else if (asked == TOTAL || asked == MOST || asked == LEAST) {
                reader.next();
                readSum(0);
            } else {
                reader.stop(1, reader.start);
            }
            if (reader.goesOn()) {
                reader.stop(1, reader.start);
            }
            return asked;
        }

        private void readTest(int open) {
            readBoth(open);
            for (int i = 0; i < MOST_BYTES && reader.isAt(OR); i++) {
                reader.next();
                readBoth(open);
                code.addWord(OR);
            }
        }

        private void readBoth(int open) {
            readFact(open);
            for (int i = 0; i < MOST_BYTES && reader.isAt(AND); i++) {
                reader.next();
                readFact(open);
                code.addWord(AND);
            }
        }

        private void readFact(int open) {
            if (reader.isAt(NOT)) {
                if (opens(open)) {
                    readFact(open + 1);
                    code.addWord(NOT);
                }
            } else if (reader.isAtSign('[')) {
                if (opens(open)) {
                    readTest(open + 1);
                    reader.takeSign(']');
                }
            } else if (reader.isAt(ALL)) {
                reader.next();
                code.addNumber(1);
            } else {
                readSum(open);
                int sign = reader.value;
                if (reader.isAtSign('<') || reader.isAtSign('>') || reader.isAtSign('=')) {
                    reader.next();
                    readSum(open);
                    code.addSign(sign);
                } else {
                    reader.stop(1, reader.start);
                }
            }
        }

        private void readSum(int open) {
            readProduct(open);
            for (int i = 0; i < MOST_BYTES && (reader.isAtSign('+') || reader.isAtSign('-')); i++) {
                int sign = reader.value;
                reader.next();
                readProduct(open);
                code.addSign(sign);
            }
        }

        private void readProduct(int open) {
            readPart(open);
            for (int i = 0; i < MOST_BYTES && (reader.isAtSign('*') || reader.isAtSign('/')); i++) {
                int sign = reader.value;
                reader.next();
                readPart(open);
                code.addSign(sign);
            }
        }

        private void readPart(int open) {
            int word = reader.wordHere();
            if (reader.sort == Reader.A_NUMBER) {
                code.addNumber(reader.takeNumber(0, 9999));
            } else if (reader.isAtSign('(')) {
                if (opens(open)) {
                    readSum(open + 1);
                    reader.takeSign(')');
                }
            } else if (word == MIN || word == MAX) {
                readPair(word, open);
            } else if (word == YIELDS && inQuestion) {
                if (opens(open)) {
                    readPart(open + 1);
                    code.addWord(YIELDS);
                }
            } else if (isValue(word)) {
                reader.next();
                code.addWord(word);
            } else {
                reader.stop(1, reader.start);
            }
        }

        private void readPair(int word, int open) {
            reader.next();
            if (!reader.isAtSign('(')) {
                reader.stop(1, reader.start);
            } else if (opens(open)) {
                readSum(open + 1);
                reader.takeSign(',');
                readSum(open + 1);
                reader.takeSign(')');
                code.addWord(word);
            }
        }

        // passes what opens, unless it is one too many at once
        private boolean opens(int open) {
            if (open >= MOST_OPEN) {
                reader.stop(4, reader.start);
                return false;
            }
            reader.next();
            return true;
        }

        private boolean isValue(int word) {
            if (word == HARM || word == HEARD) {
                return true;
            }
            if (inQuestion) {
                return word == NUMBER || word == MERIT || word == SURE;
            }
            return word == LOVE || word == WIT || word == TRUTH;
        }
    }

    /** THE COURT: rows of a NAME and its numbers, in the text's order. */
    private static final class Court {
        private static final int WORKED_OUT = 1 << 12;
        // without yields: each KIND's bit of one who is true
        private static final int TRUE_BITS = 0xAAA;

        private final int[][] kindRows = new int[MOST_KINDS][5];
        private final int[][] testRows = new int[MOST_TESTS][2];
        private final int[][] markRows = new int[MOST_MARKS][3];
        private int kinds = 0;
        private int tests = 0;
        private int marks = 0;
        private int first = 50;
        private int price = 1000;
        private boolean hasRule = false;
        private final Code rule = new Code();
        private final int[] ruleValues = new int[VALUE_COUNT];
        // who yields, by test and in how many cases it was HEARD; 0 where not worked out yet
        private final int[] yieldTable = new int[MOST_TESTS * (MOST_TIMES + 1)];

        void clear() {
            kinds = 0;
            tests = 0;
            marks = 0;
            first = 50;
            price = 1000;
            hasRule = false;
            Arrays.fill(yieldTable, 0);
        }

        int nameOf(int sort, int which) {
            if (sort == 0) {
                return nameIn(kindRows, kinds, which);
            }
            if (sort == 1) {
                return nameIn(testRows, tests, which);
            }
            return sort == 2 ? nameIn(markRows, marks, which) : NONE;
        }

        boolean hasName(int name) {
            for (int sort = 0; sort < 3; sort++) {
                for (int which = 0; which < MOST_KINDS; which++) {
                    if (nameOf(sort, which) == name) {
                        return true;
                    }
                }
            }
            return false;
        }

        private static int nameIn(int[][] rows, int count, int which) {
            return which >= 0 && which < count && which < rows.length ? rows[which][0] : NONE;
        }

        int harmOf(int set) {
            int harm = 0;
            for (int test = 0; test < tests; test++) {
                if ((set >> test & 1) != 0) {
                    harm += testRows[test][1];
                }
            }
            return harm;
        }

        // bit 2 KIND + truth: whether such a one yields at a test HEARD in so many cases
        int yieldBits(int test, int times) {
            if (!hasRule) {
                return TRUE_BITS;
            }
            if (test < 0 || test >= tests || times < 0 || times > MOST_TIMES) {
                return 0;
            }
            int at = test * (MOST_TIMES + 1) + times;
            if (yieldTable[at] != 0) {
                return yieldTable[at] & (WORKED_OUT - 1);
            }
            int bits = 0;
            ruleValues[HARM] = testRows[test][1];
            ruleValues[HEARD] = times;
            for (int kind = 0; kind < kinds; kind++) {
                ruleValues[LOVE] = kindRows[kind][1];
                ruleValues[WIT] = kindRows[kind][2];
                for (int truth = 0; truth < 2; truth++) {
                    ruleValues[TRUTH] = truth;
                    bits |= rule.resultFor(ruleValues) << (kind * 2 + truth);
                }
            }
            yieldTable[at] = WORKED_OUT | bits;
            return bits;
        }
    }

    /** Reads the text of A COURT. */
    private static final class CourtReader {
        private final Reader reader;
        private final Grammar grammar;

        CourtReader(Reader reader, Grammar grammar) {
            this.reader = reader;
            this.grammar = grammar;
        }

        // how many STATEMENTS; the reader knows the FAULT
        int readInto(Court court) {
            court.clear();
            reader.begin();
            int statements = 0;
            while (statements < MOST_STATEMENTS && reader.goesOn()) {
                switch (reader.wordHere()) {
                    case KIND:
                        readKind(court);
                        break;
                    case TEST:
                        readTrial(court);
                        break;
                    case MARK:
                        readMark(court);
                        break;
                    case YIELDS:
                        if (court.hasRule) {
                            reader.stop(5, reader.start);
                            break;
                        }
                        reader.next();
                        grammar.writeTo(court.rule, false);
                        grammar.readTest(0);
                        court.hasRule = true;
                        break;
                    case FIRST:
                        court.first = takeBehind(FIRST, 1, 99);
                        break;
                    case PRICE:
                        court.price = takeBehind(PRICE, 0, 9999);
                        break;
                    default:
                        reader.stop(1, reader.start);
                        break;
                }
                reader.takeSign(';');
                statements++;
            }
            if (reader.goesOn()) {
                reader.stop(5, reader.start);
            }
            return statements;
        }

        private void readKind(Court court) {
            if (court.kinds >= MOST_KINDS) {
                reader.stop(5, reader.start);
                return;
            }
            int[] row = court.kindRows[court.kinds];
            reader.next();
            row[0] = takeNewName(court);
            row[1] = takeBehind(LOVE, 0, 99);
            row[2] = takeBehind(WIT, 0, 99);
            row[3] = takeBehind(TRUE, 0, 9);
            row[4] = takeBehind(FALSE, 0, 9);
            court.kinds++;
        }

        private void readTrial(Court court) {
            if (court.tests >= MOST_TESTS) {
                reader.stop(5, reader.start);
                return;
            }
            int[] row = court.testRows[court.tests];
            reader.next();
            row[0] = takeNewName(court);
            row[1] = takeBehind(HARM, 0, 99);
            court.tests++;
        }

        private void readMark(Court court) {
            if (court.marks >= MOST_MARKS) {
                reader.stop(5, reader.start);
                return;
            }
            int[] row = court.markRows[court.marks];
            reader.next();
            row[0] = takeNewName(court);
            row[1] = takeBehind(TRUE, 1, 9);
            row[2] = takeBehind(FALSE, 1, 9);
            court.marks++;
        }

        private int takeNewName(Court court) {
            int name = reader.nameHere();
            if (court.hasName(name)) {
                reader.stop(3, reader.start);
            }
            reader.next();
            return name;
        }

        private int takeBehind(int word, int least, int most) {
            reader.takeWord(word);
            return reader.takeNumber(least, most);
        }
    }

    /** What ACTS change: what was judged so far, and this case. */
    private static final class State {
        private int cases = 0;
        private int harm = 0;
        private int kept = 0;
        private final int[] times = new int[MOST_TESTS];
        // as in AN IMAGE: behind 0, 1 + (whether 0 yields) + 2 (whether 1 yields)
        private final int[] answers = new int[MOST_TESTS];
        private final int[] looks = new int[2 * MOST_MARKS];

        void clear() {
            cases = 0;
            harm = 0;
            kept = 0;
            Arrays.fill(times, 0);
            forgetCase();
        }

        void forgetCase() {
            Arrays.fill(answers, 0);
            Arrays.fill(looks, 0);
        }

        void copyFrom(State other) {
            cases = other.cases;
            harm = other.harm;
            kept = other.kept;
            System.arraycopy(other.times, 0, times, 0, MOST_TESTS);
            System.arraycopy(other.answers, 0, answers, 0, MOST_TESTS);
            System.arraycopy(other.looks, 0, looks, 0, 2 * MOST_MARKS);
        }

        int heardBits() {
            int set = 0;
            for (int test = 0; test < MOST_TESTS; test++) {
                if (answers[test] != 0) {
                    set |= 1 << test;
                }
            }
            return set;
        }

        int lookedCount() {
            int count = 0;
            for (int i = 0; i < 2 * MOST_MARKS; i++) {
                if (looks[i] != 0) {
                    count++;
                }
            }
            return count;
        }

        void hearOnceMore(int set) {
            for (int test = 0; test < MOST_TESTS; test++) {
                if ((set >> test & 1) != 0) {
                    times[test] = Math.min(MOST_TIMES, times[test] + 1);
                }
            }
        }
    }

    /** What was: the states ahead of the last ACTS, and the cases judged. */
    private static final class Past {
        private final State[] states = new State[MOST_UNDONE];
        // a ring, four numbers a case: a State's count of them tells which are the last
        private final int[] rows = new int[4 * KEPT_ROOM];
        private int next = 0;
        private int count = 0;

        Past() {
            for (int i = 0; i < MOST_UNDONE; i++) {
                states[i] = new State();
            }
        }

        void keep(State state) {
            states[next].copyFrom(state);
            next = (next + 1) % MOST_UNDONE;
            count = Math.min(MOST_UNDONE, count + 1);
        }

        void giveBack(State state) {
            next = (next + MOST_UNDONE - 1) % MOST_UNDONE;
            count--;
            state.copyFrom(states[next]);
        }

        void put(int which, int claimant, int harm, int tests, int right) {
            int row = 4 * Math.floorMod(which, KEPT_ROOM);
            rows[row] = claimant;
            rows[row + 1] = harm;
            rows[row + 2] = tests;
            rows[row + 3] = right;
        }

        int cell(int which, int what) {
            return what >= 0 && what < 4 ? rows[4 * Math.floorMod(which, KEPT_ROOM) + what] : NONE;
        }
    }

    /** The cases AHEAD, as far as they are worked out. */
    private static final class Ahead {
        private final int[] sets = new int[MOST_AHEAD];
        private final int[] rights = new int[MOST_AHEAD];
        private final State times = new State();
        private int count = 0;
    }

    /** All WORLDS with their WEIGHTS; a WORLD's number is (truth 6 + KIND of 0) 6 + KIND of 1. */
    private static final class Worlds {
        private static final int HALF = MOST_KINDS * MOST_KINDS;
        private static final int ANSWER_BITS = (1 << MOST_TESTS) - 1;

        private final long[] weights = new long[2 * HALF];
        // what both would answer to all tests: the bits of 0, shifted, and the bits of 1
        private final int[] patterns = new int[2 * HALF];
        // the numbers of those that have WEIGHT, from the least on
        private final int[] living = new int[2 * HALF];
        private int livingCount = 0;
        private final long[] sums = new long[2];
        // by 2 KIND + truth: the bits of the tests at which such a one yields
        private final int[] answers = new int[2 * MOST_KINDS];
        private final long[] heapsOfZero = new long[1 << 2 * MOST_TESTS];
        private final long[] heapsOfOne = new long[1 << 2 * MOST_TESTS];

        void weigh(Court court, State state) {
            Arrays.fill(answers, 0);
            for (int test = 0; test < court.tests; test++) {
                int bits = court.yieldBits(test, state.times[test]);
                for (int who = 0; who < 2 * MOST_KINDS; who++) {
                    answers[who] |= (bits >> who & 1) << test;
                }
            }
            livingCount = 0;
            Arrays.fill(weights, 0);
            Arrays.fill(sums, 0);
            for (int truth = 0; truth < 2; truth++) {
                long first = truth == 0 ? court.first : 100 - court.first;
                for (int zero = 0; zero < court.kinds; zero++) {
                    long half = first * factor(court, state, 0, zero, truth == 0);
                    for (int one = 0; one < court.kinds && half > 0; one++) {
                        put(truth, zero, one, half * factor(court, state, 1, one, truth == 1));
                    }
                }
            }
        }

        private void put(int truth, int zero, int one, long weight) {
            int world = (truth * MOST_KINDS + zero) * MOST_KINDS + one;
            if (weight > 0 && world < weights.length && livingCount < living.length) {
                weights[world] = weight;
                patterns[world] = answers[2 * zero + 1 - truth] << MOST_TESTS | answers[2 * one + truth];
                sums[truth] += weight;
                living[livingCount] = world;
                livingCount++;
            }
        }

        // how often one who is true, or false, is of a KIND, by the MARKS too; 0 if not answered so
        private long factor(Court court, State state, int claimant, int kind, boolean isTrue) {
            int own = answers[2 * kind + (isTrue ? 1 : 0)];
            for (int test = 0; test < court.tests; test++) {
                int heard = state.answers[test];
                if (heard != 0 && ((heard - 1) >> claimant & 1) != (own >> test & 1)) {
                    return 0;
                }
            }
            long factor = court.kindRows[kind][isTrue ? 3 : 4];
            for (int mark = 0; mark < court.marks; mark++) {
                int seen = state.looks[2 * mark + claimant];
                int often = court.markRows[mark][isTrue ? 1 : 2];
                if (seen != 0) {
                    factor *= seen == 2 ? often : 10 - often;
                }
            }
            return factor;
        }

        long total() {
            return sums[0] + sums[1];
        }

        long sumOf(int truth) {
            return sums[truth];
        }

        // millionths of all; NONE when no WORLD has WEIGHT
        int share(long part) {
            return millionths(part, total());
        }

        long weightOf(int truth, int zero, int one) {
            return weights[(truth * MOST_KINDS + zero) * MOST_KINDS + one];
        }

        // of CLAIMANT 0 in bit 0, of 1 in bit 1
        int answerIn(int truth, int zero, int one, int test) {
            int ofZero = answers[2 * zero + 1 - truth] >> test & 1;
            int ofOne = answers[2 * one + truth] >> test & 1;
            return ofZero + 2 * ofOne;
        }

        int kindIn(int world, int claimant) {
            return claimant == 0 ? world / MOST_KINDS % MOST_KINDS : world % MOST_KINDS;
        }

        long sumOfKind(int claimant, int kind) {
            long sum = 0;
            for (int i = 0; i < livingCount; i++) {
                if (kindIn(living[i], claimant) == kind) {
                    sum += weights[living[i]];
                }
            }
            return sum;
        }

        long sumOfYielding(int claimant, int test) {
            int bit = claimant == 0 ? MOST_TESTS + test : test;
            long sum = 0;
            for (int i = 0; i < livingCount; i++) {
                if ((patterns[living[i]] >> bit & 1) != 0) {
                    sum += weights[living[i]];
                }
            }
            return sum;
        }

        // the first WORLD in which 0 is true and answered as in one in which 1 is
        int failingWorld(int test) {
            int mask = 1 << test | 1 << test + MOST_TESTS;
            for (int i = 0; i < livingCount && living[i] < HALF; i++) {
                for (int j = livingCount - 1; j > i && living[j] >= HALF; j--) {
                    if (((patterns[living[i]] ^ patterns[living[j]]) & mask) == 0) {
                        return living[i];
                    }
                }
            }
            return NONE;
        }

        // RIGHT, as the WEIGHT of the WORLDS that are judged right behind these tests
        long rightOf(int set) {
            int mask = (set & ANSWER_BITS) << MOST_TESTS | set & ANSWER_BITS;
            for (int i = 0; i < livingCount; i++) {
                int world = living[i];
                if (world < HALF) {
                    heapsOfZero[patterns[world] & mask] += weights[world];
                } else {
                    heapsOfOne[patterns[world] & mask] += weights[world];
                }
            }
            long right = 0;
            for (int i = 0; i < livingCount; i++) {
                int heap = patterns[living[i]] & mask;
                right += Math.max(heapsOfZero[heap], heapsOfOne[heap]);
                // each heap counts once, and the next call finds them empty
                heapsOfZero[heap] = 0;
                heapsOfOne[heap] = 0;
            }
            return right;
        }

        long meritOf(Court court, int set) {
            return share(rightOf(set)) - (long) court.harmOf(set) * court.price;
        }

        int bestSet(Court court, int heard) {
            if (total() == 0) {
                return NONE;
            }
            int best = 0;
            long most = meritOf(court, 0);
            for (int set = 1; set < 1 << court.tests; set++) {
                if ((set & heard) != 0 || MILLION - (long) court.harmOf(set) * court.price < most) {
                    continue;
                }
                long merit = meritOf(court, set);
                if (merit > most || merit == most && Integer.bitCount(set) < Integer.bitCount(best)) {
                    best = set;
                    most = merit;
                }
            }
            return best;
        }

        // no set with a test that is heard in this case can be: SURE is of tests yet to be heard
        boolean isSure(int set, int heard) {
            return (set & heard) == 0 && total() > 0 && rightOf(set) == total();
        }

        int sureSet(Court court, int heard) {
            int best = NONE;
            int least = 0;
            for (int set = 0; set < 1 << court.tests && total() > 0; set++) {
                if (!isSure(set, heard)) {
                    continue;
                }
                int harm = court.harmOf(set);
                boolean fewer = Integer.bitCount(set) < Integer.bitCount(best);
                if (best == NONE || harm < least || harm == least && fewer) {
                    best = set;
                    least = harm;
                }
            }
            return best;
        }
    }

    /** A QUESTION of all tests, and its answer so far. */
    private static final class Question {
        private final Code code = new Code();
        private final int[] values = new int[VALUE_COUNT];
        private int asked = 0;
        private long answer = 0;
        private boolean isNew = true;

        void begin(int word) {
            asked = word;
            isNew = true;
            answer = word == FIRST || word == LAST ? NONE : 0;
        }

        void setValues(Court court, State state, Worlds worlds, int test) {
            boolean hasMerit = worlds.total() > 0 && state.answers[test] == 0;
            values[NUMBER] = test;
            values[HARM] = court.testRows[test][1];
            values[HEARD] = state.times[test];
            values[MERIT] = hasMerit ? (int) worlds.meritOf(court, 1 << test) : 0;
            values[SURE] = worlds.isSure(1 << test, state.heardBits()) ? 1 : 0;
            int bits = court.yieldBits(test, state.times[test]);
            for (int kind = 0; kind < MOST_KINDS; kind++) {
                int yielding = (bits >> 2 * kind & 1) + (bits >> 2 * kind + 1 & 1);
                values[WORD_COUNT + kind] = kind < court.kinds ? yielding : 0;
            }
        }

        void take(int test) {
            int result = code.resultFor(values);
            if (asked == FIRST && result != 0 && answer == NONE || asked == LAST && result != 0) {
                answer = test;
            } else if (asked == OFTEN || asked == TOTAL) {
                answer += result;
            } else if (asked == MOST) {
                answer = isNew ? result : Math.max(answer, result);
            } else if (asked == LEAST) {
                answer = isNew ? result : Math.min(answer, result);
            }
            isNew = false;
        }
    }
}
