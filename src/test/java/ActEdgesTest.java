/** Terms II and promises 23 to 27, 29: acts, rows ANSWERED, what is undone, at each boundary and just beyond. */
public final class ActEdgesTest {
    private static final int[] FAR = {-2, 7, 100, Integer.MIN_VALUE, Integer.MAX_VALUE};
    private static final String A = "kind a love 9 wit 0 true 1 false 1;";
    private static final String SIX = Edges.each(6, "kind # love 1 wit 1 true 1 false 1;") + Edges.each(6, "test t# harm 1;")
        + Edges.each(5, "mark m# true 1 false 9;");

    public static void main(String[] args) {
        heardOnce();
        heardOfNone();
        heardWithoutWeight();
        lookedOnceEach();
        lookedOfNone();
        judgedOfNone();
        judgedToTheLast();
        heardAtMost();
        harmAtMost();
        undoneAtMost();
        undoneOfNone();
        undoneBehindOthers();
        toldRows();
        toldOfNone();
        tricks();
        tricksOfEachKind();
        Checks.finish();
    }

    private static void dueHeard(KingsTest x, int test, int zero, int one) {
        Checks.due("25: hear(" + test + ", " + zero + ", " + one + ")", x.hear(test, zero, one), true);
        Checks.due("9: how it was", x.test(test, 2), 1 + zero + 2 * one);
    }

    private static void dueNotHeard(String why, Edges.Made made, int test, int zero, int one) {
        Edges.dueRefused("25: " + why + ", hear(" + test + ", " + zero + ", " + one + ")", made,
            x -> Edges.bit(x.hear(test, zero, one)), 0, 2);
    }

    // "a test is HEARD in this case (once)"
    private static void heardOnce() {
        KingsTest x = Checks.made(SIX + "yields truth=1;");
        for (int test = 0; test < 6; test++) {
            dueHeard(x, test, 1, 0);
            Checks.due("25: once", x.hear(test, 1, 0), false);
            Checks.due("35: refused", x.status(2), test + 1);
        }
        x.judge(0);
        dueHeard(x, 5, 0, 1);
        dueNotHeard("once", Edges::rich, 0, 0, 0);
        dueNotHeard("once, as it was not", Edges::rich, 0, 1, 0);
        for (int how = 1; how <= 4; how++) {
            int asHeard = how;
            dueNotHeard("once, by an image", () -> Edges.imaged(A + "test t harm 1;", 0, 0, 0, 0, 0, asHeard), 0, 1, 0);
        }
    }

    // "there is none such, or for others"
    private static void heardOfNone() {
        dueNotHeard("behind the last", Edges::rich, 2, 0, 1);
        dueNotHeard("ahead of the first", Edges::rich, -1, 0, 1);
        dueNotHeard("behind the last of six", () -> Checks.made(SIX), 6, 1, 0);
        for (int far : FAR) {
            dueNotHeard("no test", Edges::rich, far, 0, 1);
            dueNotHeard("0 neither yields nor not", Edges::rich, 1, far, 1);
            dueNotHeard("1 neither yields nor not", Edges::rich, 1, 0, far);
        }
        for (int answer : new int[] {-1, 2, 3}) {
            dueNotHeard("0 neither yields nor not", Edges::rich, 1, answer, 1);
            dueNotHeard("1 neither yields nor not", Edges::rich, 1, 0, answer);
            dueNotHeard("nor does any of both", Edges::rich, 1, answer, answer);
        }
        dueNotHeard("no tests", () -> Checks.made(A), 0, 1, 0);
        KingsTest x = Edges.rich();
        dueHeard(x, 1, 0, 1);
    }

    // "no WORLD would have WEIGHT then"
    private static void heardWithoutWeight() {
        for (int how = 0; how < 4; how++) {
            int zero = how & 1;
            int one = how >> 1;
            String none = "no WORLD would have WEIGHT";
            if (zero != one) {
                dueHeard(Checks.made(A + "test t harm 1;"), 0, zero, one);
                dueNotHeard(none, () -> Checks.made(A + "test t harm 1;yields all;"), 0, zero, one);
                dueNotHeard(none, () -> Checks.made(A + "test t harm 1;yields not all;"), 0, zero, one);
            } else {
                dueNotHeard(none, () -> Checks.made(A + "test t harm 1;"), 0, zero, one);
                dueHeard(Checks.made(A + "test t harm 1;yields " + (zero == 1 ? "all;" : "not all;")), 0, zero, one);
            }
            dueNotHeard(none, () -> Checks.made("kind a love 1 wit 1 true 0 false 9;test t harm 1;"), 0, zero, one);
            dueNotHeard(none, () -> Checks.made("test t harm 1;"), 0, zero, one);
        }
        // the least WEIGHT that there is is enough: first 1, one of each
        dueHeard(Checks.made(A + "first 1;test t harm 1;"), 0, 1, 0);
        dueHeard(Checks.made(A + "first 99;test t harm 1;"), 0, 0, 1);
        // each answer can be, but not both together
        dueNotHeard("not beside what was heard", () -> heardFirst(1, 0), 1, 0, 1);
        dueHeard(heardFirst(1, 0), 1, 1, 0);
        dueHeard(heardFirst(0, 1), 1, 0, 1);
        dueNotHeard("none has WEIGHT now", () -> Edges.imaged(A + "test t harm 1;test u harm 1;", 0, 0, 0, 0, 0, 1, 0, 0), 1, 1, 0);
    }

    private static KingsTest heardFirst(int zero, int one) {
        KingsTest x = Checks.made(A + "test t harm 1;test u harm 1;");
        dueHeard(x, 0, zero, one);
        return x;
    }

    // "a MARK is LOOKED for at a CLAIMANT (once each)"
    private static void lookedOnceEach() {
        KingsTest x = Checks.made(SIX);
        for (int i = 0; i < 10; i++) {
            int seen = i % 3 == 0 ? 1 : 0;
            Checks.due("26: look", x.look(i / 2, i % 2, seen), true);
            Checks.due("10: how it was", x.mark(i / 2, 2 + i % 2), 1 + seen);
            Checks.due("26: it was, seen again", x.look(i / 2, i % 2, seen), false);
            Checks.due("26: it was, seen else", x.look(i / 2, i % 2, 1 - seen), false);
            Checks.due("35: refused", x.status(2), 2 * i + 2);
        }
        x.judge(1);
        Checks.due("26: in a new case", x.look(4, 1, 0), true);
        Edges.dueRefused("26: it was", Edges::rich, y -> Edges.bit(y.look(0, 1, 1)), 0, 2);
        Edges.dueRefused("26: it was", Edges::rich, y -> Edges.bit(y.look(0, 1, 0)), 0, 2);
        Checks.due("26: not at the other one", Edges.rich().look(0, 0, 0), true);
        Checks.due("26: no WORLD has WEIGHT", Checks.made("mark m true 1 false 1;").look(0, 1, 1), true);
    }

    // "when .. there are none such, or for others"
    private static void lookedOfNone() {
        int[][] none = {{1, 0, 1}, {-1, 0, 1}, {0, 2, 1}, {0, -1, 1}, {0, 0, 2}, {0, 0, -1}};
        for (int[] row : none) {
            Edges.dueRefused("26: look(" + row[0] + ", " + row[1] + ", " + row[2] + ")", Edges::rich,
                x -> Edges.bit(x.look(row[0], row[1], row[2])), 0, 2);
        }
        for (int far : FAR) {
            Edges.dueRefused("26: MARK " + far, Edges::rich, x -> Edges.bit(x.look(far, 0, 1)), 0, 2);
            Edges.dueRefused("26: CLAIMANT " + far, Edges::rich, x -> Edges.bit(x.look(0, far, 1)), 0, 2);
            Edges.dueRefused("26: seen " + far, Edges::rich, x -> Edges.bit(x.look(0, 0, far)), 0, 2);
        }
        Edges.dueRefused("26: behind the last of five", () -> Checks.made(SIX), x -> Edges.bit(x.look(5, 0, 1)), 0, 2);
        Edges.dueRefused("26: no MARKS", () -> Checks.made(A), x -> Edges.bit(x.look(0, 0, 1)), 0, 2);
    }

    // "NONE, refused (2), when there is none such"
    private static void judgedOfNone() {
        for (int claimant : new int[] {-1, 2, 3, Integer.MIN_VALUE, Integer.MAX_VALUE}) {
            Edges.dueRefused("27: judge(" + claimant + ")", Edges::rich, x -> x.judge(claimant), -1, 2);
        }
        KingsTest x = Edges.rich();
        Checks.due("27: judge(0)", x.judge(0), 4);
        Checks.due("27: judge(1)", x.judge(1), 5);
        Checks.due("27: without KINDS", new KingsTest().judge(1), 1);
    }

    // "or there were 9999"
    private static void judgedToTheLast() {
        KingsTest x = Edges.imaged("", 39, 14, 0, 0);
        Checks.due("27: the 9999th", x.judge(0), 9999);
        Checks.due("27: one more", x.judge(0), -1);
        Checks.due("6: cases", x.has(4), 9999);
        Edges.dueRefused("27: there were 9999", () -> Edges.imaged("", 39, 15, 0, 0), y -> y.judge(0), -1, 2);
        Edges.dueRefused("27: there were 9999", () -> Edges.imaged("", 39, 15, 0, 0), y -> y.judge(1), -1, 2);
        x.undo();
        Checks.due("27: the 9999th again", x.judge(1), 9999);
        x = Edges.imaged("", 0, 254, 0, 0);
        Checks.due("27: the 255th", x.judge(1), 255);
        Checks.due("27: the 256th", x.judge(1), 256);
    }

    // "each test heard in the last one is HEARD in one case more (99 at most)"
    private static void heardAtMost() {
        String court = A + "test t harm 1;test u harm 1;";
        for (int times = 96; times <= 99; times++) {
            KingsTest x = Edges.imaged(court, 0, 0, 0, 0, times, 2, times, 0);
            Checks.due("9: HEARD so far", x.test(0, 1), times);
            x.judge(0);
            Checks.due("9: HEARD in one case more", x.test(0, 1), Math.min(99, times + 1));
            Checks.due("9: it was not heard", x.test(1, 1), times);
            Checks.due("6: its harm is done", x.has(5), 1);
            x.hear(0, 1, 0);
            x.judge(0);
            Checks.due("9: 99 at most", x.test(0, 1), Math.min(99, times + 2));
            x.undo();
            Checks.due("9: undone", x.test(0, 1), Math.min(99, times + 1));
        }
        KingsTest x = Edges.imaged("kind a love 9 wit 0 true 1 false 1;test t harm 1;", 0, 0, 0, 0, 98, 0);
        x.chance(3);
        Checks.due("9: 99 at most, by the seed", x.test(0, 1), 99);
        Checks.due("6: its harm is done each time", x.has(5), 3);
    }

    // "its harm is done (9999 at most in all)"
    private static void harmAtMost() {
        for (int harm = 9990; harm <= 9999; harm++) {
            KingsTest x = Edges.imaged(A + "test t harm 5;", 0, 0, harm >> 8, harm & 255, 0, 2);
            x.judge(0);
            Checks.due("6: harm behind " + harm, x.has(5), Math.min(9999, harm + 5));
            Checks.due("12: harm of the case", x.kept(0, 1), 5);
            x.undo();
            Checks.due("6: undone", x.has(5), harm);
        }
        KingsTest x = Checks.made(SIX.replace("harm 1", "harm 99"));
        for (int test = 0; test < 6; test++) {
            x.hear(test, 1, 0);
        }
        x.judge(0);
        Checks.due("12: the most harm of a case", x.kept(0, 1), 594);
        Checks.due("12: the most tests of a case", x.kept(0, 2), 6);
        Checks.due("6: and in all", x.has(5), 594);
        x = Edges.imaged(A + "test t harm 0;", 0, 0, 39, 15, 0, 2);
        x.judge(0);
        Checks.due("6: 9999 and no harm", x.has(5), 9999);
        x = Edges.imaged(A + "test t harm 9;price 0;", 0, 0, 39, 0, 0, 0);
        x.chance(2);
        Checks.due("6: 9999 at most, by the seed", x.has(5), 9999);
    }

    // "The last 20 ACTS can be undone"
    private static void undoneAtMost() {
        for (int acts = 19; acts <= 22; acts++) {
            KingsTest x = Checks.made(SIX);
            for (int i = 0; i < acts; i++) {
                x.judge(0);
            }
            Checks.due("6: ACTS", x.has(10), Math.min(20, acts));
            for (int i = 0; i < Math.min(20, acts); i++) {
                Checks.due("29: undo", x.undo(), true);
                Checks.due("6: ACTS", x.has(10), Math.min(20, acts) - i - 1);
                Checks.due("6: cases", x.has(4), acts - i - 1);
            }
            Checks.due("29: none can be", x.undo(), false);
            Checks.due("35: refused", x.status(4), 1);
            Checks.due("6: cases", x.has(4), Math.max(0, acts - 20));
        }
        // each sort of ACT is one
        KingsTest x = Checks.made(SIX);
        for (int i = 0; i < 5; i++) {
            x.look(0, 0, 1);
            x.hear(0, 1, 0);
            x.judge(0);
            x.chance(2);
        }
        x.look(0, 1, 1);
        for (int i = 0; i < 20; i++) {
            Checks.due("29: undo", x.undo(), true);
        }
        Checks.due("29: but not the first", x.undo(), false);
        Checks.due("10: the first stands", x.mark(0, 2), 2);
    }

    // "false, refused (4), when none can be"
    private static void undoneOfNone() {
        Edges.dueRefused("29: ahead of any ACT", KingsTest::new, x -> Edges.bit(x.undo()), 0, 4);
        Edges.dueRefused("29: behind a court", () -> Checks.made(Edges.TWO), x -> Edges.bit(x.undo()), 0, 4);
        Edges.dueRefused("29: behind an image", () -> Edges.imaged(A, 0, 1, 0, 0), x -> Edges.bit(x.undo()), 0, 4);
        Edges.dueRefused("29: all are undone", ActEdgesTest::allUndone, x -> Edges.bit(x.undo()), 0, 4);
    }

    private static KingsTest allUndone() {
        KingsTest x = Edges.rich();
        for (int i = 0; i < 5; i++) {
            Checks.due("29: undo", x.undo(), true);
        }
        Checks.due("6: no ACTS", x.has(10), 0);
        return x;
    }

    private static void undoneBehindOthers() {
        KingsTest x = Checks.made(SIX);
        for (int i = 0; i < 15; i++) {
            x.judge(1);
        }
        for (int i = 0; i < 10; i++) {
            x.undo();
        }
        for (int i = 0; i < 17; i++) {
            x.judge(0);
        }
        Checks.due("6: 5 and 17, 20 of them", x.has(10), 20);
        for (int i = 0; i < 20; i++) {
            Checks.due("29: undo", x.undo(), true);
        }
        Checks.due("29: no more", x.undo(), false);
        Checks.due("6: the first two stand", x.has(4), 2);
        Checks.due("12: as they were", x.kept(1, 0), 1);
        x = Edges.rich();
        Checks.tell(x, 0, 0, 0, 1, 1, 1, 0, 0);
        x.undo();
        Checks.due("29: what is ANSWERED is no ACT", x.has(9), 2);
        Checks.due("29: nor is an image", x.octet(1), 3);
    }

    // "1 to 16 rows of four bytes: how many rows"
    private static void toldRows() {
        for (int rows = 1; rows <= 16; rows++) {
            KingsTest x = Edges.rich();
            Checks.due("23: rows", Checks.tell(x, new int[4 * rows]), rows);
            Checks.due("6: rows ANSWERED", x.has(9), rows);
            Checks.due("23: the tape goes", x.feed(0, 0, 0, 0, 0), 20);
            Checks.due("35: no refusal", x.status(1), 0);
        }
        KingsTest x = Checks.made(SIX);
        Checks.due("23: the last KINDS", Checks.tell(x, 5, 5, 1, 1), 1);
        // the 16th row counts as the first
        int[] octets = new int[64];
        for (int i = 2; i < 64; i += 4) {
            octets[i] = 1;
        }
        Checks.due("23: 16 rows", Checks.tell(x, octets), 16);
        Checks.due("24: all is so", x.trick(), 63);
        octets[62] = 0;
        Checks.due("23: 16 rows", Checks.tell(x, octets), 16);
        Checks.due("24: but the last row", x.trick(), 0);
        octets[62] = 1;
        octets[2] = 0;
        Checks.tell(x, octets);
        Checks.due("24: but the first row", x.trick(), 0);
    }

    private static void dueNotTold(String why, int... octets) {
        Edges.dueRefusedTape("23: " + why, Checks.octets(octets), KingsTest::tell, -1, 1);
    }

    // "NONE, refused (1), all staying, when it is none such"
    private static void toldOfNone() {
        dueNotTold("no row");
        for (int length = 1; length <= 72; length++) {
            if (length % 4 != 0 || length > 64) {
                dueNotTold("of " + length + " bytes", new int[length]);
            }
        }
        dueNotTold("the longest tape", new int[1600]);
        for (int at = 0; at < 8; at++) {
            for (int octet : new int[] {2, 3, 127, 128, 255}) {
                int[] octets = new int[8];
                octets[at] = octet;
                dueNotTold("byte " + at + " is " + octet, octets);
            }
        }
        int[] most = new int[64];
        most[63] = 2;
        dueNotTold("the last byte of 16 rows", most);
        for (int at = 0; at < 64; at++) {
            toldOfSix(at, 1, 16);
            toldOfSix(at, 2, at % 4 < 2 ? 16 : -1);
            toldOfSix(at, 5, at % 4 < 2 ? 16 : -1);
            toldOfSix(at, 6, -1);
        }
        for (int at = 0; at < 2; at++) {
            int[] octets = new int[4];
            octets[at] = 6;
            Checks.due("23: KIND 6 of six", Checks.tell(Checks.made(SIX), octets), -1);
            octets[at] = 5;
            Checks.due("23: KIND 5 of six", Checks.tell(Checks.made(SIX), octets), 1);
        }
        Checks.due("23: no KINDS", Checks.tell(Checks.made("test t harm 1;"), 0, 0, 0, 0), -1);
    }

    private static void toldOfSix(int at, int octet, int want) {
        int[] octets = new int[64];
        octets[at] = octet;
        Checks.due("23: of 6 KINDS, byte " + at + " is " + octet, Checks.tell(Checks.made(SIX), octets), want);
    }

    // "rows of the KIND of a true one, the KIND of a false one, whether the true one yielded, whether the false one did"
    private static void tricksOfEachKind() {
        StringBuilder court = new StringBuilder();
        for (int kind = 0; kind < 6; kind++) {
            court.append("kind ").append((char) ('a' + kind)).append(" love ").append(kind).append(" wit 0 true 1 false 1;");
        }
        for (int test = 0; test < 6; test++) {
            court.append("test t").append((char) ('a' + test)).append(" harm ").append(test).append(";");
        }
        String[] rules = {"love=harm and truth=1", "love=harm and truth=0"};
        for (int truth = 1; truth >= 0; truth--) {
            for (int kind = 0; kind < 6; kind++) {
                // of all tests just one is yielded at by this KIND, when true, or when false
                KingsTest x = Checks.made(court + "yields " + rules[1 - truth] + ";");
                int[] row = truth == 1 ? new int[] {kind, 5 - kind, 1, 0} : new int[] {5 - kind, kind, 0, 1};
                Checks.due("23: tell", Checks.tell(x, row), 1);
                Checks.due("24: KIND " + kind + " yielded", x.trick(), 1 << kind);
                row[2] = 0;
                row[3] = 0;
                Checks.tell(x, row);
                Checks.due("24: KIND " + kind + " did not", x.trick(), 63 - (1 << kind));
                // each of six rows takes one test away
                int[] rows = new int[4 * (kind + 1)];
                for (int i = 0; i <= kind; i++) {
                    rows[4 * i] = truth == 1 ? i : 0;
                    rows[4 * i + 1] = truth == 1 ? 0 : i;
                }
                Checks.due("23: tell", Checks.tell(x, rows), kind + 1);
                Checks.due("24: by all rows", x.trick(), 63 - (2 << kind) + 1);
            }
        }
    }

    // "(all tests, if nothing is)", "tests, as they are HEARD now, by which all is so"
    private static void tricks() {
        Checks.due("24: no tests", Checks.made(A).trick(), 0);
        Checks.due("24: all of six", Checks.made(SIX).trick(), 63);
        KingsTest x = Checks.made(SIX);
        Checks.tell(x, 5, 0, 1, 0);
        Checks.due("24: all of six still", x.trick(), 63);
        Checks.tell(x, 5, 0, 1, 1);
        Checks.due("24: none of them", x.trick(), 0);
        String court = A + Edges.each(6, "test t# harm 1;").replace("tf harm 1", "tf harm 2")
            + "yields truth=1 and heard<1 or harm=2;";
        x = Checks.made(court);
        Checks.tell(x, 0, 0, 1, 0);
        Checks.due("24: all but the last", x.trick(), 31);
        Checks.tell(x, 0, 0, 1, 1);
        Checks.due("24: the last alone", x.trick(), 32);
        x.hear(0, 1, 0);
        Checks.tell(x, 0, 0, 1, 0);
        Checks.due("24: it is heard, but in no case before", x.trick(), 31);
        x.judge(0);
        Checks.due("24: as it is HEARD now", x.trick(), 30);
        x.undo();
        Checks.due("24: as it is HEARD again", x.trick(), 31);
    }
}
