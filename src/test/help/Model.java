import java.math.BigInteger;
import java.util.ArrayDeque;
import java.util.ArrayList;
import java.util.Arrays;
import java.util.Deque;
import java.util.HashMap;
import java.util.List;
import java.util.Map;

/**
 * The document once more, slow and by the letter: all WORLDS are gone through at each call, numbers
 * are BigInteger, texts become trees, states are copied whole. Shares no line with the program.
 */
final class Model {
    static final long NOTHING = -1000000000000000L;

    /** Where a text stops being one. */
    private static final class Wrong extends RuntimeException {
        private static final long serialVersionUID = 1L;
        final int fault;
        final int place;

        Wrong(int fault, int place) {
            super(null, null, false, false);
            this.fault = fault;
            this.place = place;
        }
    }

    private interface Tree {
        long of(Map<String, Long> values);
    }

    private record Kind(String name, int love, int wit, int whenTrue, int whenFalse) {
    }

    private record Trial(String name, int harm) {
    }

    private record Sign(String name, int whenTrue, int whenFalse) {
    }

    private record Row(int whom, int harm, int tests, int right) {
    }

    private record World(int truth, int zero, int one) {
        int kindOf(int claimant) {
            return claimant == 0 ? zero : one;
        }

        int kindOfTrue() {
            return kindOf(truth);
        }

        int kindOfFalse() {
            return kindOf(1 - truth);
        }

        int truthOf(int claimant) {
            return truth == claimant ? 1 : 0;
        }
    }

    private static final class Law {
        final List<Kind> kinds = new ArrayList<>();
        final List<Trial> tests = new ArrayList<>();
        final List<Sign> marks = new ArrayList<>();
        int first = 50;
        int price = 1000;
        Tree yields = null;
        final Map<String, Long> worked = new HashMap<>();
    }

    private static final class Now {
        int cases = 0;
        int harm = 0;
        List<Row> kept = new ArrayList<>();
        int[] times = new int[6];
        // {0 yields, 1 yields} of a test heard in this case, else null
        int[][] answers = new int[6][];
        Integer[][] looks = new Integer[5][2];

        Now copy() {
            Now copy = new Now();
            copy.cases = cases;
            copy.harm = harm;
            copy.kept = new ArrayList<>(kept);
            copy.times = times.clone();
            copy.answers = answers.clone();
            for (int i = 0; i < 5; i++) {
                copy.looks[i] = looks[i].clone();
            }
            return copy;
        }

        Now begun() {
            Now begun = copy();
            begun.answers = new int[6][];
            begun.looks = new Integer[5][2];
            return begun;
        }
    }

    private byte[] tape = new byte[0];
    private Law law = new Law();
    private Now now = new Now();
    private final Deque<Now> past = new ArrayDeque<>();
    private List<int[]> answered = new ArrayList<>();
    private long x = 1;
    private int fault = 0;
    private int place = -1;
    private int[] image = new int[0];
    private final int[] refused = new int[6];

    private int no(int sort) {
        refused[sort]++;
        return -1;
    }

    // ---- texts

    private static final class Text {
        static final List<String> OWN = Arrays.asList("kind", "love", "wit", "true", "false", "test", "harm", "mark",
            "yields", "first", "price", "heard", "truth", "number", "merit", "sure", "or", "and", "not", "all", "min", "max");
        final String text;
        final boolean question;
        int at = 0;
        int depth = 0;

        Text(byte[] bytes, boolean question) {
            StringBuilder all = new StringBuilder();
            for (byte b : bytes) {
                all.append((char) (b & 255));
            }
            this.text = all.toString();
            this.question = question;
            blanks();
        }

        void blanks() {
            while (at < text.length() && (text.charAt(at) == ' ' || text.charAt(at) == '\n')) {
                at++;
            }
        }

        static boolean letter(char c) {
            return c >= 'a' && c <= 'z';
        }

        static boolean digit(char c) {
            return c >= '0' && c <= '9';
        }

        boolean over() {
            return at >= text.length();
        }

        // letters or digits right behind letters or digits are none of their own
        boolean clinging() {
            if (at == 0 || over()) {
                return false;
            }
            char before = text.charAt(at - 1);
            char here = text.charAt(at);
            return (letter(before) || digit(before)) && (letter(here) || digit(here));
        }

        String run(boolean letters) {
            int end = at;
            while (end < text.length() && (letters ? letter(text.charAt(end)) : digit(text.charAt(end)))) {
                end++;
            }
            return clinging() ? "" : text.substring(at, end);
        }

        boolean sees(String word) {
            return run(true).equals(word);
        }

        boolean sees(char sign) {
            return !over() && text.charAt(at) == sign;
        }

        void skip(int n) {
            at += n;
            blanks();
        }

        Wrong one() {
            return new Wrong(1, at);
        }

        void word(String word) {
            if (!sees(word)) {
                throw one();
            }
            skip(word.length());
        }

        void sign(char sign) {
            if (!sees(sign)) {
                throw one();
            }
            skip(1);
        }

        int number(int least, int most) {
            String digits = run(false);
            if (digits.isEmpty()) {
                throw one();
            }
            if (digits.length() > 4) {
                throw new Wrong(1, at + 4);
            }
            int number = Integer.parseInt(digits);
            if (number < least || number > most) {
                throw new Wrong(2, at);
            }
            skip(digits.length());
            return number;
        }

        int after(String word, int least, int most) {
            word(word);
            return number(least, most);
        }

        String name(List<String> there) {
            String name = run(true);
            if (name.isEmpty() || OWN.contains(name)) {
                throw one();
            }
            if (name.length() > 6) {
                throw new Wrong(1, at + 6);
            }
            if (there.contains(name)) {
                throw new Wrong(3, at);
            }
            skip(name.length());
            there.add(name);
            return name;
        }

        void open(int length) {
            depth++;
            if (depth == 7) {
                throw new Wrong(4, at);
            }
            skip(length);
        }

        void close(char sign) {
            sign(sign);
            depth--;
        }

        Tree test() {
            Tree left = both();
            while (sees("or")) {
                skip(2);
                Tree a = left;
                Tree b = both();
                left = v -> a.of(v) + b.of(v) > 0 ? 1 : 0;
            }
            return left;
        }

        Tree both() {
            Tree left = fact();
            while (sees("and")) {
                skip(3);
                Tree a = left;
                Tree b = fact();
                left = v -> a.of(v) * b.of(v);
            }
            return left;
        }

        Tree fact() {
            if (sees("not")) {
                open(3);
                Tree a = fact();
                depth--;
                return v -> 1 - a.of(v);
            }
            if (sees('[')) {
                open(1);
                Tree a = test();
                close(']');
                return a;
            }
            if (sees("all")) {
                skip(3);
                return v -> 1;
            }
            Tree a = sum();
            if (!sees('<') && !sees('>') && !sees('=')) {
                throw one();
            }
            char sign = text.charAt(at);
            skip(1);
            Tree b = sum();
            return v -> Integer.signum(Long.compare(a.of(v), b.of(v))) == (sign == '<' ? -1 : sign == '>' ? 1 : 0) ? 1 : 0;
        }

        static long held(long n) {
            return n > 1000000 ? 1000000 : n < -1000000 ? -1000000 : n;
        }

        Tree sum() {
            Tree left = product();
            while (sees('+') || sees('-')) {
                long turn = sees('+') ? 1 : -1;
                skip(1);
                Tree a = left;
                Tree b = product();
                left = v -> held(a.of(v) + turn * b.of(v));
            }
            return left;
        }

        static long over(long a, long b) {
            if (b == 0) {
                return 0;
            }
            long down = a / b;
            return down * b != a && (a < 0) != (b < 0) ? down - 1 : down;
        }

        Tree product() {
            Tree left = part();
            while (sees('*') || sees('/')) {
                boolean times = sees('*');
                skip(1);
                Tree a = left;
                Tree b = part();
                left = v -> times ? held(a.of(v) * b.of(v)) : over(a.of(v), b.of(v));
            }
            return left;
        }

        Tree part() {
            if (!run(false).isEmpty()) {
                long n = number(0, 9999);
                return v -> n;
            }
            if (sees('(')) {
                open(1);
                Tree a = sum();
                close(')');
                return a;
            }
            if (sees("min") || sees("max")) {
                boolean min = sees("min");
                skip(3);
                if (!sees('(')) {
                    throw one();
                }
                open(1);
                Tree a = sum();
                sign(',');
                Tree b = sum();
                close(')');
                return v -> min ? Math.min(a.of(v), b.of(v)) : Math.max(a.of(v), b.of(v));
            }
            if (question && sees("yields")) {
                open(6);
                Tree a = part();
                depth--;
                return v -> v.getOrDefault("kind " + a.of(v), 0L);
            }
            String all = question ? "number harm heard merit sure" : "love wit harm heard truth";
            for (String value : all.split(" ")) {
                if (sees(value)) {
                    skip(value.length());
                    return v -> v.get(value);
                }
            }
            throw one();
        }

        int statements(Law law) {
            List<String> names = new ArrayList<>();
            int count = 0;
            while (!over()) {
                if (count == 60) {
                    throw new Wrong(5, at);
                }
                statement(law, names);
                sign(';');
                count++;
            }
            return count;
        }

        void limit(int there, int most) {
            if (there == most) {
                throw new Wrong(5, at);
            }
        }

        void statement(Law law, List<String> names) {
            if (sees("kind")) {
                limit(law.kinds.size(), 6);
                skip(4);
                law.kinds.add(new Kind(name(names), after("love", 0, 99), after("wit", 0, 99), after("true", 0, 9),
                    after("false", 0, 9)));
            } else if (sees("test")) {
                limit(law.tests.size(), 6);
                skip(4);
                law.tests.add(new Trial(name(names), after("harm", 0, 99)));
            } else if (sees("mark")) {
                limit(law.marks.size(), 5);
                skip(4);
                law.marks.add(new Sign(name(names), after("true", 1, 9), after("false", 1, 9)));
            } else if (sees("yields")) {
                limit(law.yields == null ? 0 : 1, 1);
                skip(6);
                law.yields = test();
            } else if (sees("first")) {
                law.first = after("first", 1, 99);
            } else if (sees("price")) {
                law.price = after("price", 0, 9999);
            } else {
                throw one();
            }
        }
    }

    int feed(int a, int b, int c, int d, int e) {
        if (tape.length + 20 > 1600) {
            return no(0);
        }
        byte[] longer = Arrays.copyOf(tape, tape.length + 20);
        int[] all = {a, b, c, d, e};
        for (int i = 0; i < 20; i++) {
            longer[tape.length + i] = (byte) (all[i / 4] >>> (24 - 8 * (i % 4)));
        }
        tape = longer;
        return tape.length;
    }

    boolean end(int n) {
        if (n < 0 || n > tape.length) {
            no(0);
            return false;
        }
        tape = Arrays.copyOf(tape, n);
        return true;
    }

    private byte[] taken() {
        byte[] was = tape;
        tape = new byte[0];
        return was;
    }

    int court() {
        Law next = new Law();
        int count;
        try {
            count = new Text(taken(), false).statements(next);
        } catch (Wrong wrong) {
            fault = wrong.fault;
            place = wrong.place;
            return no(1);
        }
        fault = 0;
        place = -1;
        law = next;
        now = new Now();
        past.clear();
        answered = new ArrayList<>();
        return count;
    }

    int fault(int what) {
        return what == 0 ? fault : what == 1 ? place : -1;
    }

    int has(int what) {
        int looked = 0;
        for (Integer[] look : now.looks) {
            looked += (look[0] != null ? 1 : 0) + (look[1] != null ? 1 : 0);
        }
        int[] all = {law.kinds.size(), law.tests.size(), law.marks.size(), law.first, now.cases, now.harm,
            Integer.bitCount(heard(now)), looked, told().size(), answered.size(), past.size()};
        return what >= 0 && what < all.length ? all[what] : -1;
    }

    int letter(int kind, int which, int k) {
        List<String> names = new ArrayList<>();
        if (kind == 0) {
            law.kinds.forEach(row -> names.add(row.name()));
        } else if (kind == 1) {
            law.tests.forEach(row -> names.add(row.name()));
        } else if (kind == 2) {
            law.marks.forEach(row -> names.add(row.name()));
        }
        if (which < 0 || which >= names.size() || k < 0 || k > 5) {
            return -1;
        }
        return k < names.get(which).length() ? names.get(which).charAt(k) - 'a' + 1 : 0;
    }

    private boolean isKind(int k) {
        return k >= 0 && k < law.kinds.size();
    }

    private boolean isTest(int t) {
        return t >= 0 && t < law.tests.size();
    }

    private boolean isMark(int m) {
        return m >= 0 && m < law.marks.size();
    }

    int kind(int kind, int what) {
        if (!isKind(kind) || what < 0 || what > 3) {
            return -1;
        }
        Kind k = law.kinds.get(kind);
        return new int[] {k.love(), k.wit(), k.whenTrue(), k.whenFalse()}[what];
    }

    private static int how(int[] answer) {
        return answer == null ? 0 : 1 + answer[0] + 2 * answer[1];
    }

    int test(int test, int what) {
        if (!isTest(test) || what < 0 || what > 2) {
            return -1;
        }
        return new int[] {law.tests.get(test).harm(), now.times[test], how(now.answers[test])}[what];
    }

    private static int how(Integer look) {
        return look == null ? 0 : 1 + look;
    }

    int mark(int mark, int what) {
        if (!isMark(mark) || what < 0 || what > 3) {
            return -1;
        }
        Sign m = law.marks.get(mark);
        return new int[] {m.whenTrue(), m.whenFalse(), how(now.looks[mark][0]), how(now.looks[mark][1])}[what];
    }

    private int yieldsAt(int kind, int test, int truth, int times) {
        if (law.yields == null) {
            return truth;
        }
        String key = kind + " " + test + " " + truth + " " + times;
        Long known = law.worked.get(key);
        if (known == null) {
            Map<String, Long> values = new HashMap<>();
            values.put("love", (long) law.kinds.get(kind).love());
            values.put("wit", (long) law.kinds.get(kind).wit());
            values.put("harm", (long) law.tests.get(test).harm());
            values.put("heard", (long) times);
            values.put("truth", (long) truth);
            known = law.yields.of(values);
            law.worked.put(key, known);
        }
        return known.intValue();
    }

    int yields(int kind, int test, int truth) {
        if (!isKind(kind) || !isTest(test) || truth != 0 && truth != 1) {
            return -1;
        }
        return yieldsAt(kind, test, truth, now.times[test]);
    }

    private List<Row> told() {
        return now.kept.subList(Math.max(0, now.kept.size() - 40), now.kept.size());
    }

    int kept(int k, int what) {
        if (k < 0 || k >= told().size() || what < 0 || what > 3) {
            return -1;
        }
        Row row = told().get(k);
        return new int[] {row.whom(), row.harm(), row.tests(), row.right()}[what];
    }

    // ---- odds

    private int answer(Now state, World world, int claimant, int test) {
        return yieldsAt(world.kindOf(claimant), test, world.truthOf(claimant), state.times[test]);
    }

    private long weight(Now state, World world) {
        long weight = world.truth() == 0 ? law.first : 100 - law.first;
        weight *= law.kinds.get(world.kindOfTrue()).whenTrue();
        weight *= law.kinds.get(world.kindOfFalse()).whenFalse();
        for (int mark = 0; mark < law.marks.size(); mark++) {
            for (int claimant = 0; claimant < 2; claimant++) {
                Integer look = state.looks[mark][claimant];
                if (look != null) {
                    Sign m = law.marks.get(mark);
                    int often = world.truthOf(claimant) == 1 ? m.whenTrue() : m.whenFalse();
                    weight *= look == 1 ? often : 10 - often;
                }
            }
        }
        for (int test = 0; test < law.tests.size(); test++) {
            for (int claimant = 0; claimant < 2; claimant++) {
                if (state.answers[test] != null && state.answers[test][claimant] != answer(state, world, claimant, test)) {
                    weight = 0;
                }
            }
        }
        return weight;
    }

    private Map<World, Long> worlds(Now state) {
        Map<World, Long> all = new java.util.LinkedHashMap<>();
        for (int truth = 0; truth < 2; truth++) {
            for (int zero = 0; zero < law.kinds.size(); zero++) {
                for (int one = 0; one < law.kinds.size(); one++) {
                    World world = new World(truth, zero, one);
                    long weight = weight(state, world);
                    if (weight > 0) {
                        all.put(world, weight);
                    }
                }
            }
        }
        return all;
    }

    private static long sum(Map<World, Long> worlds) {
        long sum = 0;
        for (long weight : worlds.values()) {
            sum += weight;
        }
        return sum;
    }

    private static int millionths(long part, long whole) {
        return BigInteger.valueOf(part).multiply(BigInteger.valueOf(1000000)).divide(BigInteger.valueOf(whole)).intValue();
    }

    private interface Of {
        boolean is(World world);
    }

    private int share(Of of) {
        Map<World, Long> worlds = worlds(now);
        long all = sum(worlds);
        if (all == 0) {
            return -1;
        }
        long part = 0;
        for (World world : worlds.keySet()) {
            part += of.is(world) ? worlds.get(world) : 0;
        }
        return millionths(part, all);
    }

    long weight(int truth, int zero, int one) {
        if (truth != 0 && truth != 1 || !isKind(zero) || !isKind(one)) {
            return NOTHING;
        }
        return weight(now, new World(truth, zero, one));
    }

    int odds(int claimant) {
        return claimant != 0 && claimant != 1 ? -1 : share(w -> w.truth() == claimant);
    }

    int kinds(int claimant, int kind) {
        return claimant != 0 && claimant != 1 || !isKind(kind) ? -1 : share(w -> w.kindOf(claimant) == kind);
    }

    int would(int claimant, int test) {
        return claimant != 0 && claimant != 1 || !isTest(test) ? -1 : share(w -> answer(now, w, claimant, test) == 1);
    }

    // ---- tests

    private static int heard(Now state) {
        int set = 0;
        for (int i = 0; i < 6; i++) {
            set |= state.answers[i] != null ? 1 << i : 0;
        }
        return set;
    }

    private int harm(int set) {
        int harm = 0;
        for (int i = 0; i < law.tests.size(); i++) {
            harm += (set >> i) % 2 * law.tests.get(i).harm();
        }
        return harm;
    }

    private String pattern(Now state, World world, int set) {
        StringBuilder pattern = new StringBuilder();
        for (int test = 0; test < law.tests.size(); test++) {
            if ((set >> test) % 2 == 1) {
                pattern.append(answer(state, world, 0, test)).append(answer(state, world, 1, test));
            }
        }
        return pattern.toString();
    }

    private long right(Now state, int set) {
        Map<World, Long> worlds = worlds(state);
        Map<String, long[]> heaps = new HashMap<>();
        for (World world : worlds.keySet()) {
            heaps.computeIfAbsent(pattern(state, world, set), p -> new long[2])[world.truth()] += worlds.get(world);
        }
        long right = 0;
        for (long[] heap : heaps.values()) {
            right += Math.max(heap[0], heap[1]);
        }
        return right;
    }

    private long merit(Now state, int set) {
        return millionths(right(state, set), sum(worlds(state))) - (long) harm(set) * law.price;
    }

    long merit(int set) {
        if (set < 0 || set >= 1 << law.tests.size() || (set & heard(now)) != 0 || sum(worlds(now)) == 0) {
            return NOTHING;
        }
        return merit(now, set);
    }

    private int best(Now state) {
        if (sum(worlds(state)) == 0) {
            return -1;
        }
        List<Integer> sets = free(state);
        Map<Integer, Long> merits = new HashMap<>();
        sets.forEach(set -> merits.put(set, merit(state, set)));
        sets.sort((a, b) -> !merits.get(a).equals(merits.get(b)) ? Long.compare(merits.get(b), merits.get(a))
            : Integer.bitCount(a) != Integer.bitCount(b) ? Integer.bitCount(a) - Integer.bitCount(b) : a - b);
        return sets.get(0);
    }

    private List<Integer> free(Now state) {
        List<Integer> sets = new ArrayList<>();
        for (int set = 0; set < 1 << law.tests.size(); set++) {
            if ((set & heard(state)) == 0) {
                sets.add(set);
            }
        }
        return sets;
    }

    int best() {
        return best(now);
    }

    int parts(int test, int what) {
        if (!isTest(test) || now.answers[test] != null || what < 0 || what > 2) {
            return -1;
        }
        List<World> all = new ArrayList<>(worlds(now).keySet());
        for (int ofTrue = 0; ofTrue < law.kinds.size(); ofTrue++) {
            for (int ofFalse = 0; ofFalse < law.kinds.size(); ofFalse++) {
                World world = new World(0, ofTrue, ofFalse);
                for (World other : all) {
                    if (all.contains(world) && other.truth() == 1
                        && pattern(now, world, 1 << test).equals(pattern(now, other, 1 << test))) {
                        return new int[] {0, ofTrue, ofFalse}[what];
                    }
                }
            }
        }
        return what == 0 ? 1 : -1;
    }

    int sure(int what) {
        long all = sum(worlds(now));
        if (what != 0 && what != 1 || all == 0) {
            return -1;
        }
        List<Integer> sets = free(now);
        sets.removeIf(set -> right(now, set) != all);
        if (sets.isEmpty()) {
            return -1;
        }
        sets.sort((a, b) -> harm(a) != harm(b) ? harm(a) - harm(b)
            : Integer.bitCount(a) != Integer.bitCount(b) ? Integer.bitCount(a) - Integer.bitCount(b) : a - b);
        return what == 0 ? sets.get(0) : harm(sets.get(0));
    }

    // ---- cases to come

    private static void more(Now state, int set) {
        for (int i = 0; i < 6; i++) {
            if ((set >> i) % 2 == 1) {
                state.times[i] = Math.min(99, state.times[i] + 1);
            }
        }
    }

    int ahead(int n, int what) {
        if (n < 0 || n > 29 || what < 0 || what > 2) {
            return -1;
        }
        Now state = now.begun();
        more(state, heard(now));
        for (int i = 0; i < n; i++) {
            int set = best(state);
            if (set >= 0) {
                more(state, set);
            }
        }
        int set = best(state);
        if (set < 0) {
            return -1;
        }
        return what == 0 ? set : what == 1 ? millionths(right(state, set), sum(worlds(state))) : harm(set);
    }

    int known(int test, int heard) {
        if (!isTest(test) || heard < 0 || heard > 99) {
            return -1;
        }
        Now state = now.begun();
        state.times[test] = heard;
        long all = sum(worlds(state));
        return all == 0 ? -1 : millionths(right(state, 1 << test), all);
    }

    // ---- which test it was

    int tell() {
        byte[] told = taken();
        if (told.length == 0 || told.length > 64 || told.length % 4 != 0) {
            return no(1);
        }
        List<int[]> rows = new ArrayList<>();
        for (int i = 0; i < told.length; i += 4) {
            int[] row = {told[i] & 255, told[i + 1] & 255, told[i + 2] & 255, told[i + 3] & 255};
            if (!isKind(row[0]) || !isKind(row[1]) || row[2] > 1 || row[3] > 1) {
                return no(1);
            }
            rows.add(row);
        }
        answered = rows;
        return rows.size();
    }

    int trick() {
        int set = 0;
        for (int test = 0; test < law.tests.size(); test++) {
            boolean can = true;
            for (int[] row : answered) {
                can &= yields(row[0], test, 1) == row[2] && yields(row[1], test, 0) == row[3];
            }
            set |= can ? 1 << test : 0;
        }
        return set;
    }

    // ---- acts

    private void act() {
        past.addLast(now.copy());
        if (past.size() > 20) {
            past.removeFirst();
        }
    }

    boolean hear(int test, int zero, int one) {
        boolean can = isTest(test) && (zero == 0 || zero == 1) && (one == 0 || one == 1) && now.answers[test] == null;
        if (can) {
            Now next = now.copy();
            next.answers[test] = new int[] {zero, one};
            can = sum(worlds(next)) > 0;
        }
        if (!can) {
            no(2);
            return false;
        }
        act();
        now.answers[test] = new int[] {zero, one};
        return true;
    }

    boolean look(int mark, int claimant, int seen) {
        if (!isMark(mark) || claimant != 0 && claimant != 1 || seen != 0 && seen != 1 || now.looks[mark][claimant] != null) {
            no(2);
            return false;
        }
        act();
        now.looks[mark][claimant] = seen;
        return true;
    }

    private void close(int claimant, int right) {
        int set = heard(now);
        now.kept.add(new Row(claimant, harm(set), Integer.bitCount(set), right));
        more(now, set);
        now.harm = Math.min(9999, now.harm + harm(set));
        now.cases++;
        now = now.begun();
    }

    int judge(int claimant) {
        if (claimant != 0 && claimant != 1 || now.cases == 9999) {
            return no(2);
        }
        act();
        close(claimant, 2);
        return now.cases;
    }

    private int draw(int m) {
        x = (1103515245L * x + 12345) % (1L << 31);
        return (int) (x / 64 % m);
    }

    private int drawKind(int truth) {
        List<Integer> lots = new ArrayList<>();
        for (int kind = 0; kind < law.kinds.size(); kind++) {
            int often = truth == 1 ? law.kinds.get(kind).whenTrue() : law.kinds.get(kind).whenFalse();
            for (int i = 0; i < often; i++) {
                lots.add(kind);
            }
        }
        return lots.isEmpty() ? -1 : lots.get(draw(lots.size()));
    }

    int chance(int n) {
        if (n < 1 || n > 30 || now.cases + n > 9999) {
            return no(3);
        }
        act();
        now = now.begun();
        int right = 0;
        for (int i = 0; i < n; i++) {
            int truth = draw(100) < law.first ? 0 : 1;
            int zero = drawKind(1 - truth);
            int one = zero < 0 ? -1 : drawKind(truth);
            if (one < 0) {
                continue;
            }
            World world = new World(truth, zero, one);
            int set = best(now);
            for (int test = 0; test < law.tests.size(); test++) {
                if ((set >> test) % 2 == 1) {
                    now.answers[test] = new int[] {answer(now, world, 0, test), answer(now, world, 1, test)};
                }
            }
            long[] sums = new long[2];
            worlds(now).forEach((w, weight) -> sums[w.truth()] += weight);
            int judged = sums[1] > sums[0] ? 1 : 0;
            right += judged == truth ? 1 : 0;
            close(judged, judged == truth ? 1 : 0);
        }
        return right;
    }

    boolean undo() {
        if (past.isEmpty()) {
            no(4);
            return false;
        }
        now = past.removeLast();
        return true;
    }

    boolean seed(int seed) {
        if (seed < 0) {
            no(5);
            return false;
        }
        x = seed;
        return true;
    }

    // ---- questions

    long ask() {
        Text text = new Text(taken(), true);
        Tree tree;
        String asked = text.run(true);
        try {
            if (!Arrays.asList("first", "last", "often", "total", "most", "least").contains(asked)) {
                throw text.one();
            }
            text.skip(asked.length());
            tree = Arrays.asList("first", "last", "often").contains(asked) ? text.test() : text.sum();
            if (!text.over()) {
                throw text.one();
            }
        } catch (Wrong wrong) {
            fault = wrong.fault;
            place = wrong.place;
            return NOTHING;
        }
        fault = 0;
        place = -1;
        List<Long> results = new ArrayList<>();
        for (int test = 0; test < law.tests.size(); test++) {
            results.add(tree.of(valuesOf(test)));
        }
        switch (asked) {
            case "first":
                return results.indexOf(1L);
            case "last":
                return results.lastIndexOf(1L);
            case "most":
                return results.stream().mapToLong(r -> r).max().orElse(0);
            case "least":
                return results.stream().mapToLong(r -> r).min().orElse(0);
            default:
                return results.stream().mapToLong(r -> r).sum();
        }
    }

    private Map<String, Long> valuesOf(int test) {
        Map<String, Long> values = new HashMap<>();
        long all = sum(worlds(now));
        values.put("number", (long) test);
        values.put("harm", (long) law.tests.get(test).harm());
        values.put("heard", (long) now.times[test]);
        boolean asked = all != 0 && free(now).contains(1 << test);
        values.put("merit", asked ? merit(now, 1 << test) : 0L);
        values.put("sure", asked && right(now, 1 << test) == all ? 1L : 0L);
        for (int kind = 0; kind < law.kinds.size(); kind++) {
            values.put("kind " + kind, (long) yields(kind, test, 0) + yields(kind, test, 1));
        }
        return values;
    }

    // ---- images

    private static int check(List<Integer> all) {
        int c = 61;
        for (int it : all) {
            c = (3 * c + it) % 251;
        }
        return c;
    }

    int image() {
        List<Integer> all = new ArrayList<>(Arrays.asList(now.cases / 256, now.cases % 256, now.harm / 256, now.harm % 256));
        for (int test = 0; test < law.tests.size(); test++) {
            all.add(now.times[test]);
            all.add(how(now.answers[test]));
        }
        for (int mark = 0; mark < law.marks.size(); mark++) {
            all.add(how(now.looks[mark][0]));
            all.add(how(now.looks[mark][1]));
        }
        all.add(check(all));
        image = all.stream().mapToInt(i -> i).toArray();
        return image.length;
    }

    int octet(int k) {
        return k >= 0 && k < image.length ? image[k] : -1;
    }

    boolean on() {
        byte[] bytes = taken();
        List<Integer> all = new ArrayList<>();
        for (byte b : bytes) {
            all.add(b & 255);
        }
        Now next = new Now();
        boolean fits = all.size() == 5 + 2 * law.tests.size() + 2 * law.marks.size();
        fits = fits && check(all.subList(0, all.size() - 1)) == all.get(all.size() - 1);
        if (fits) {
            next.cases = all.get(0) * 256 + all.get(1);
            next.harm = all.get(2) * 256 + all.get(3);
            fits = next.cases <= 9999 && next.harm <= 9999;
            int at = 4;
            for (int test = 0; test < law.tests.size(); test++, at += 2) {
                next.times[test] = all.get(at);
                int how = all.get(at + 1);
                fits &= all.get(at) <= 99 && how <= 4;
                next.answers[test] = how == 0 ? null : new int[] {(how - 1) % 2, (how - 1) / 2};
            }
            for (int mark = 0; mark < law.marks.size(); mark++, at += 2) {
                for (int claimant = 0; claimant < 2; claimant++) {
                    int how = all.get(at + claimant);
                    fits &= how <= 2;
                    next.looks[mark][claimant] = how == 0 ? null : Integer.valueOf(how - 1);
                }
            }
        }
        if (!fits) {
            no(5);
            return false;
        }
        now = next;
        past.clear();
        return true;
    }

    int status(int what) {
        return what >= 0 && what < 6 ? refused[what] : -1;
    }
}
