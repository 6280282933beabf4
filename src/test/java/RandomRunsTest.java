import java.util.ArrayList;
import java.util.List;

/** Runs of random calls, the program beside the Model: each answer must be the same. */
public final class RandomRunsTest {
    private static final int RUNS = 400;
    private static final int[] STRANGE = {-1, -2, 2, 3, 6, 7, 40, 64, 100, Integer.MIN_VALUE, Integer.MAX_VALUE};
    private static final String[] SIGNS = {"<", ">", "="};

    private final KingsTest x = new KingsTest();
    private final Model m = new Model();
    private final int run;
    private long dice;

    private RandomRunsTest(int run) {
        this.run = run;
        this.dice = run * 7919L + 17;
    }

    public static void main(String[] args) {
        int runs = args.length > 0 ? Integer.parseInt(args[0]) : RUNS;
        int from = args.length > 1 ? Integer.parseInt(args[1]) : 0;
        for (int run = from; run < from + runs; run++) {
            new RandomRunsTest(run).go();
        }
        Checks.finish();
    }

    private int roll(int sides) {
        dice = dice * 6364136223846793005L + 1442695040888963407L;
        return (int) ((dice >>> 33) % sides);
    }

    private boolean oneIn(int sides) {
        return roll(sides) == 0;
    }

    private String any(String... all) {
        return all[roll(all.length)];
    }

    private String number() {
        return "" + (oneIn(3) ? roll(3) : oneIn(2) ? roll(100) : roll(10000));
    }

    private String part(int depth, boolean question) {
        int which = roll(depth > 0 ? 9 : 6);
        if (which < 2) {
            return number();
        }
        if (which < 6) {
            return question ? any("number", "harm", "heard", "merit", "sure") : any("love", "wit", "harm", "heard", "truth");
        }
        if (which == 6) {
            return "(" + sum(depth - 1, question) + ")";
        }
        if (which == 7 && question) {
            return "yields " + part(depth - 1, true);
        }
        return any("min", "max") + "(" + sum(depth - 1, question) + "," + sum(depth - 1, question) + ")";
    }

    private String product(int depth, boolean question) {
        StringBuilder all = new StringBuilder(part(depth, question));
        while (oneIn(4)) {
            all.append(any("*", "/", " * ")).append(part(depth, question));
        }
        return all.toString();
    }

    private String sum(int depth, boolean question) {
        StringBuilder all = new StringBuilder(product(depth, question));
        while (oneIn(3)) {
            all.append(any("+", "-", " - ")).append(product(depth, question));
        }
        return all.toString();
    }

    private String fact(int depth, boolean question) {
        int which = roll(depth > 0 ? 8 : 6);
        if (which == 0 && oneIn(3)) {
            return "all";
        }
        if (which == 6) {
            return "not " + fact(depth - 1, question);
        }
        if (which == 7) {
            return "[" + test(depth - 1, question) + "]";
        }
        return sum(depth, question) + any(SIGNS) + sum(depth, question);
    }

    private String test(int depth, boolean question) {
        StringBuilder all = new StringBuilder(fact(depth, question));
        while (oneIn(3)) {
            all.append(any(" and ", " or ", "\nand\n")).append(fact(depth, question));
        }
        return all.toString();
    }

    private String usualTest() {
        return any("truth=1", "love>wit and truth=1 or truth=0 and wit>heard*9", "truth=1 and heard<3 or love>harm",
            "love*3>harm+heard*7", "wit+heard*5>harm and truth=0 or love>50 and truth=1",
            "[truth=1 and love>harm-heard] or [truth=0 and wit<harm]", test(2, false), test(6, false));
    }

    private String court() {
        List<String> statements = new ArrayList<>();
        int names = 0;
        int kinds = oneIn(9) ? roll(8) : oneIn(9) ? 6 : 1 + roll(4);
        int tests = oneIn(9) ? roll(8) : oneIn(9) ? 6 : 1 + roll(4);
        int marks = oneIn(9) ? roll(7) : oneIn(9) ? 5 : roll(3);
        int most = oneIn(8) ? 10 : 9;
        for (int i = 0; i < kinds; i++) {
            statements.add("kind k" + name(names++) + " love " + roll(100) + " wit " + roll(100) + " true "
                + rate(most) + " false " + rate(most));
        }
        for (int i = 0; i < tests; i++) {
            int harm = oneIn(2) ? roll(100) : oneIn(2) ? roll(4) : 5;
            statements.add("test t" + name(names++) + " harm " + harm);
        }
        for (int i = 0; i < marks; i++) {
            statements.add("mark m" + name(names++) + " true " + (1 + roll(9)) + " false " + (1 + roll(9)));
        }
        if (!oneIn(6)) {
            statements.add("yields " + usualTest());
        }
        if (oneIn(2)) {
            statements.add("first " + (1 + roll(99)));
        }
        if (oneIn(2)) {
            statements.add("price " + (oneIn(2) ? roll(10000) : roll(2000)));
        }
        while (!oneIn(5)) {
            statements.add(statements.isEmpty() ? "first 7" : statements.remove(roll(statements.size())));
        }
        if (oneIn(40)) {
            while (statements.size() < 59 + roll(4)) {
                statements.add("price " + roll(10));
            }
        }
        StringBuilder text = new StringBuilder();
        for (String statement : statements) {
            text.append(statement).append(any(";", "; ", ";\n", " ;"));
        }
        return text.toString();
    }

    private int rate(int most) {
        return oneIn(4) ? 0 : roll(most + (oneIn(30) ? 2 : 1));
    }

    private String name(int number) {
        return oneIn(40) ? any("xyzxyzx", "xyzxyz", "xyzxy", "", "a") : "" + (char) ('a' + number % 26);
    }

    private String spoilt(String text) {
        StringBuilder all = new StringBuilder(text);
        int times = 1 + roll(2);
        for (int i = 0; i < times; i++) {
            int at = roll(all.length() + 1);
            String bit = any("(", ")", "[", "]", "not ", "not not not ", "((((", "[[[", " ", "\n", "\t", "5", "12345", "x", "kind",
                "and", "or", "yields", " yields ", ",", ";", "<", "=", "+", "/", "all", "min(", "A", "\u00e9", "{", "`", "0", " 7 ",
                "truth", "merit", "true", "first 3;", "price 3;", "love");
            if (oneIn(2) && at < all.length()) {
                all.delete(at, Math.min(all.length(), at + 1 + roll(3)));
            } else if (oneIn(6)) {
                all.setLength(at);
            } else {
                all.insert(at, bit);
            }
        }
        return all.toString();
    }

    private void put(byte[] bytes) {
        due("end(0)", x.end(0), m.end(0));
        for (int from = 0; from < bytes.length; from += 20) {
            int[] n = new int[5];
            for (int i = 0; i < 20; i++) {
                n[i / 4] = n[i / 4] << 8 | (from + i < bytes.length ? bytes[from + i] & 255 : 32);
            }
            due("feed", x.feed(n[0], n[1], n[2], n[3], n[4]), m.feed(n[0], n[1], n[2], n[3], n[4]));
        }
        due("end", x.end(bytes.length), m.end(bytes.length));
    }

    private void due(String call, long got, long want) {
        Checks.due("run " + run + ": " + call, got, want);
    }

    private void due(String call, boolean got, boolean want) {
        Checks.due("run " + run + ": " + call, got, want);
    }

    private void dueFaults(String text) {
        due("fault(0) of " + text, x.fault(0), m.fault(0));
        due("fault(1) of " + text, x.fault(1), m.fault(1));
        due("fault(2)", x.fault(2), m.fault(2));
    }

    private void newCourt() {
        String text = court();
        if (oneIn(3)) {
            text = spoilt(text);
        }
        put(Checks.bytes(text));
        due("court of " + text, x.court(), m.court());
        dueFaults(text);
    }

    private void question() {
        String text = any("first ", "last ", "often ");
        text += test(oneIn(4) ? 5 : 2, true);
        if (oneIn(2)) {
            text = any("total ", "most ", "least ") + sum(oneIn(4) ? 5 : 2, true);
        }
        if (oneIn(4)) {
            text = spoilt(text);
        }
        put(Checks.bytes(text));
        due("ask of " + text, x.ask(), m.ask());
        dueFaults(text);
    }

    private void rows() {
        int count = oneIn(8) ? roll(19) : 1 + roll(2);
        int[] octets = new int[oneIn(10) ? roll(70) : 4 * count];
        for (int i = 0; i < octets.length; i++) {
            octets[i] = oneIn(200) ? roll(256) : i % 4 < 2 ? roll(Math.max(1, m.has(0))) : roll(2);
        }
        put(Checks.octets(octets));
        due("tell", x.tell(), m.tell());
    }

    private void turnedOn() {
        int length = m.image();
        due("image()", x.image(), length);
        int[] octets = new int[length];
        for (int i = 0; i < length; i++) {
            octets[i] = m.octet(i);
        }
        int changes = roll(4);
        for (int i = 0; i < changes; i++) {
            int at = roll(length);
            boolean ofTimes = at >= 4 && at % 2 == 0 && at < 4 + 2 * m.has(1);
            octets[at] = at < 4 || oneIn(9) ? roll(256) : ofTimes ? roll(102) : roll(6);
        }
        if (oneIn(6)) {
            octets[0] = 39;
            octets[1] = 10 + roll(8);
        }
        if (oneIn(6)) {
            octets[2] = 39;
            octets[3] = 10 + roll(8);
        }
        if (!oneIn(5)) {
            int check = 61;
            for (int i = 0; i < length - 1; i++) {
                check = (3 * check + octets[i]) % 251;
            }
            octets[length - 1] = check;
        }
        put(Checks.octets(oneIn(12) ? java.util.Arrays.copyOf(octets, length - 1 + roll(3)) : octets));
        due("on", x.on(), m.on());
    }

    // mostly what there is, sometimes what there is not
    private int about(int most) {
        return oneIn(12) ? STRANGE[roll(STRANGE.length)] : roll(most + 1);
    }

    private void act() {
        int a = about(m.has(1));
        int b = about(1);
        int c = about(1);
        switch (roll(9)) {
            case 0:
            case 1:
            case 2:
                due("hear(" + a + ", " + b + ", " + c + ")", x.hear(a, b, c), m.hear(a, b, c));
                break;
            case 3:
            case 4:
                a = about(m.has(2));
                due("look(" + a + ", " + b + ", " + c + ")", x.look(a, b, c), m.look(a, b, c));
                break;
            case 5:
            case 6:
                due("judge(" + b + ")", x.judge(b), m.judge(b));
                break;
            case 7:
                int n = oneIn(5) ? roll(33) : 1 + roll(3);
                due("chance(" + n + ")", x.chance(n), m.chance(n));
                break;
            default:
                due("undo()", x.undo(), m.undo());
                break;
        }
    }

    private void tellAll() {
        for (int i = -1; i < 12; i++) {
            due("has(" + i + ")", x.has(i), m.has(i));
            due("status(" + i + ")", x.status(i), m.status(i));
        }
        int length = m.image();
        due("image()", x.image(), length);
        for (int i = -1; i <= length; i++) {
            due("octet(" + i + ")", x.octet(i), m.octet(i));
        }
        int k = about(m.has(8));
        int what = about(3);
        due("kept(" + k + ", " + what + ")", x.kept(k, what), m.kept(k, what));
    }

    private void look() {
        int kind = about(m.has(0));
        int test = about(m.has(1));
        int bit = about(1);
        int what = about(3);
        switch (roll(6)) {
            case 0:
                int sort = about(2);
                int k = about(5);
                due("letter", x.letter(sort, kind, k), m.letter(sort, kind, k));
                break;
            case 1:
                due("kind", x.kind(kind, what), m.kind(kind, what));
                break;
            case 2:
                due("test", x.test(test, what), m.test(test, what));
                break;
            case 3:
                int mark = about(m.has(2));
                due("mark", x.mark(mark, what), m.mark(mark, what));
                break;
            case 4:
                due("yields", x.yields(kind, test, bit), m.yields(kind, test, bit));
                break;
            default:
                due("trick", x.trick(), m.trick());
                break;
        }
    }

    private void weigh() {
        int kind = about(m.has(0));
        int test = about(m.has(1));
        int bit = about(1);
        switch (roll(5)) {
            case 0:
                int other = about(m.has(0));
                due("weight", x.weight(bit, kind, other), m.weight(bit, kind, other));
                break;
            case 1:
                due("odds", x.odds(bit), m.odds(bit));
                break;
            case 2:
                due("kinds", x.kinds(bit, kind), m.kinds(bit, kind));
                break;
            case 3:
                due("would", x.would(bit, test), m.would(bit, test));
                break;
            default:
                int times = oneIn(2) ? roll(5) : roll(102) - 1;
                due("known(" + test + ", " + times + ")", x.known(test, times), m.known(test, times));
                break;
        }
    }

    private void choose() {
        int what = about(3);
        switch (roll(5)) {
            case 0:
                int set = oneIn(20) ? about(70) : roll(1 << m.has(1));
                due("merit(" + set + ")", x.merit(set), m.merit(set));
                break;
            case 1:
                due("best", x.best(), m.best());
                break;
            case 2:
                int test = about(m.has(1));
                due("parts(" + test + ", " + what + ")", x.parts(test, what), m.parts(test, what));
                break;
            case 3:
                due("sure", x.sure(what), m.sure(what));
                break;
            default:
                int n = oneIn(6) ? roll(32) - 1 : roll(3);
                due("ahead(" + n + ", " + what + ")", x.ahead(n, what), m.ahead(n, what));
                break;
        }
    }

    private void go() {
        tellAll();
        newCourt();
        for (int i = 0; i < 100; i++) {
            int which = roll(36);
            if (which == 0) {
                newCourt();
            } else if (which < 8) {
                act();
            } else if (which < 11) {
                question();
            } else if (which == 11) {
                rows();
            } else if (which == 12) {
                turnedOn();
            } else if (which == 13) {
                int seed = oneIn(4) ? -1 - roll(9) : roll(Integer.MAX_VALUE);
                due("seed", x.seed(seed), m.seed(seed));
            } else if (which < 18) {
                look();
            } else if (which < 27) {
                weigh();
            } else {
                choose();
            }
            if (oneIn(3)) {
                tellAll();
            }
        }
    }
}
