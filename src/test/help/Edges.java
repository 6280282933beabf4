import java.util.ArrayList;
import java.util.List;

/** What the tests of boundaries share: a refused call beside a twin that was not asked it. */
final class Edges {
    /** Two KINDS, two tests, one MARK: all that a refused call could spoil. */
    static final String TWO = "kind a love 9 wit 0 true 2 false 1;kind b love 1 wit 0 true 1 false 3;test t harm 5;"
        + "test u harm 20;mark m true 8 false 3;first 60;yields truth=1 and love>harm or truth=0 and harm>10;";

    interface Made {
        KingsTest make();
    }

    interface Call {
        long of(KingsTest x);
    }

    private Edges() {
    }

    static long bit(boolean answer) {
        return answer ? 1 : 0;
    }

    /** Cases judged and KEPT, ACTS, rows ANSWERED, AN IMAGE, a seed, bytes on the tape, a case half heard. */
    static KingsTest rich() {
        KingsTest x = Checks.made(TWO);
        x.seed(12345);
        x.chance(2);
        x.hear(1, 0, 1);
        x.judge(1);
        x.image();
        Checks.tell(x, 0, 0, 1, 0);
        x.hear(0, 0, 0);
        x.look(0, 1, 1);
        x.feed(1, 2, 3, 4, 5);
        x.feed(1, 2, 3, 4, 5);
        x.end(37);
        return x;
    }

    /** An object that a text and then AN IMAGE of it (without its last byte) made. */
    static KingsTest imaged(String text, int... octets) {
        KingsTest x = Checks.made(text);
        Checks.due("34: on of " + text, Checks.onChecked(x, octets), true);
        return x;
    }

    /** All that calls tell of an object without changing it, but for FAULTS and refusals. */
    static List<Long> told(KingsTest x) {
        List<Long> all = new ArrayList<>();
        for (int what = 0; what <= 10; what++) {
            all.add((long) x.has(what));
        }
        rows(x, all);
        for (int k = 0; x.octet(k) >= 0; k++) {
            all.add((long) x.octet(k));
        }
        int last = x.has(8) - 1;
        for (int what = 0; what < 4; what++) {
            all.add((long) x.kept(0, what));
            all.add((long) x.kept(last, what));
        }
        all.add((long) x.odds(0));
        all.add(x.merit(0));
        all.add((long) x.best());
        all.add((long) x.trick());
        all.add((long) x.ahead(1, 0));
        return all;
    }

    private static void rows(KingsTest x, List<Long> all) {
        for (int kind = 0; kind < x.has(0); kind++) {
            all.add((long) x.letter(0, kind, 0));
            all.add((long) x.kind(kind, 0));
            all.add((long) x.kind(kind, 3));
        }
        for (int test = 0; test < x.has(1); test++) {
            for (int what = 0; what < 3; what++) {
                all.add((long) x.test(test, what));
            }
            all.add((long) x.yields(0, test, 0));
            all.add((long) x.yields(0, test, 1));
        }
        for (int mark = 0; mark < x.has(2); mark++) {
            for (int what = 0; what < 4; what++) {
                all.add((long) x.mark(mark, what));
            }
        }
    }

    private static void dueSame(String call, KingsTest x, KingsTest twin) {
        Checks.due(call + ": all stays, " + told(x) + " was " + told(twin), told(x).equals(told(twin)), true);
    }

    // the seed, and what ACTS undone bring back, show only in what comes
    private static void dueSameToCome(String call, KingsTest x, KingsTest twin) {
        Checks.due(call + ": the seed stays", x.chance(7), twin.chance(7));
        for (int k = 0; k < twin.has(8); k++) {
            Checks.due(call + ": the seed stays, kept(" + k + ", 0)", x.kept(k, 0), twin.kept(k, 0));
            Checks.due(call + ": the seed stays, kept(" + k + ", 3)", x.kept(k, 3), twin.kept(k, 3));
        }
        for (int i = 0; i < 2; i++) {
            Checks.due(call + ": ACTS stay", x.undo(), twin.undo());
            dueSame(call + ", undone", x, twin);
        }
    }

    private static void dueCounts(String call, KingsTest x, KingsTest twin, int sort) {
        for (int what = 0; what < 6; what++) {
            int more = what == sort ? 1 : 0;
            Checks.due(call + ": status(" + what + ")", x.status(what), twin.status(what) + more);
        }
    }

    private static void dueFaults(String call, KingsTest x, int fault, int place) {
        Checks.due(call + ": fault(0)", x.fault(0), fault);
        Checks.due(call + ": fault(1)", x.fault(1), place);
    }

    /** A call refused: its answer, one more of its sort alone, all else and the tape as they were. */
    static void dueRefused(String call, Made made, Call asked, long answer, int sort) {
        KingsTest x = made.make();
        KingsTest twin = made.make();
        Checks.due(call, asked.of(x), answer);
        dueCounts(call, x, twin, sort);
        dueFaults(call, x, twin.fault(0), twin.fault(1));
        dueSame(call, x, twin);
        Checks.due(call + ": the tape stays", x.feed(0, 0, 0, 0, 0), twin.feed(0, 0, 0, 0, 0));
        dueSameToCome(call, x, twin);
    }

    /** A call that is answered with "none": nothing is refused by it, all stays. */
    static void dueNone(String call, Made made, Call asked, long answer) {
        dueRefused(call, made, asked, answer, -1);
    }

    /** A call that takes the tape, refused: the tape goes, all else stays. */
    static void dueRefusedTape(String call, byte[] tape, Call asked, long answer, int sort) {
        KingsTest x = rich();
        KingsTest twin = rich();
        Checks.put(x, tape);
        Checks.due(call, asked.of(x), answer);
        dueCounts(call, x, twin, sort);
        dueFaults(call, x, twin.fault(0), twin.fault(1));
        dueSame(call, x, twin);
        Checks.due(call + ": the tape goes", x.feed(0, 0, 0, 0, 0), 20);
        dueSameToCome(call, x, twin);
    }

    /** A COURT with a FAULT: NONE, refused (1), the tape goes, all else stays. */
    static void dueFault(String text, int fault, int place) {
        String call = "court of \"" + text + "\"";
        KingsTest x = rich();
        KingsTest twin = rich();
        Checks.due(call, Checks.court(x, text), KingsTest.NONE);
        dueFaults(call, x, fault, place);
        dueCounts(call, x, twin, 1);
        dueSame(call, x, twin);
        Checks.due(call + ": the tape goes", x.feed(0, 0, 0, 0, 0), 20);
        dueSameToCome(call, x, twin);
    }

    /** A QUESTION with a FAULT: NOTHING, no refusal, the tape goes, all else stays. */
    static void dueAskFault(String text, int fault, int place) {
        String call = "ask of \"" + text + "\"";
        KingsTest x = rich();
        KingsTest twin = rich();
        Checks.due(call, Checks.ask(x, text), KingsTest.NOTHING);
        dueFaults(call, x, fault, place);
        dueCounts(call, x, twin, -1);
        dueSame(call, x, twin);
        Checks.due(call + ": the tape goes", x.feed(0, 0, 0, 0, 0), 20);
        dueSameToCome(call, x, twin);
    }

    /** A COURT that is taken: how many STATEMENTS, no FAULT, no refusal. */
    static KingsTest dueTaken(String text, int statements) {
        KingsTest x = rich();
        Checks.due("court of \"" + text + "\"", Checks.court(x, text), statements);
        dueFaults("court of \"" + text + "\"", x, 0, KingsTest.NONE);
        Checks.due("court of \"" + text + "\": no refusal", x.status(1), 0);
        Checks.due("court of \"" + text + "\": the tape goes", x.feed(0, 0, 0, 0, 0), 20);
        x.end(0);
        return x;
    }

    /** The next x of a DRAW, by the document's own words. */
    static long drawn(long seed) {
        return (1103515245L * seed + 12345L) % (1L << 31);
    }

    /** Such a statement for each of so many NAMES: # is a letter, a, b, c .. */
    static String each(int n, String statement) {
        StringBuilder all = new StringBuilder();
        for (int i = 0; i < n; i++) {
            all.append(statement.replace('#', (char) ('a' + i)));
        }
        return all.toString();
    }
}
