import java.util.Arrays;

/** Terms IV and promises 32 to 35: AN IMAGE and what is none, how many were refused, at each boundary and beyond. */
public final class ImageEdgesTest {
    private static final String A = "kind a love 9 wit 0 true 1 false 1;";
    private static final String FULL = Edges.each(6, "kind # love 1 wit 1 true 1 false 1;")
        + Edges.each(6, "test t# harm 1;") + Edges.each(5, "mark m# true 1 false 1;");
    private static final int[] SHORT = {0, 0, 0, 0, 0, 0, 0, 0, 0, 0};

    public static void main(String[] args) {
        lengths();
        casesInTwoBytes();
        harmInTwoBytes();
        timesAndHows();
        lastByte();
        everyLastByte();
        octetsOfNone();
        latestImage();
        imageIsNoAct();
        casesAtMost();
        harmAtMost();
        heardAtMost();
        howsAtMost();
        looksAtMost();
        ofThisCourt();
        lastByteWrong();
        nothingToUndo();
        withoutWeight();
        backAgain();
        eachByteBackAgain();
        countsOfEach();
        countsOfNone();
        countsStay();
        Checks.finish();
    }

    private static int[] withCheck(int... octets) {
        int[] all = Arrays.copyOf(octets, octets.length + 1);
        int c = 61;
        for (int it : octets) {
            c = (3 * c + it) % 251;
        }
        all[octets.length] = c;
        return all;
    }

    private static void dueImage(String why, KingsTest x, int... octets) {
        int[] all = withCheck(octets);
        Checks.due("32: image(), " + why, x.image(), all.length);
        for (int k = 0; k < all.length; k++) {
            Checks.due("33: octet(" + k + "), " + why, x.octet(k), all[k]);
        }
        Checks.due("33: behind the last byte, " + why, x.octet(all.length), -1);
    }

    // 5 bytes, two more for each test, for each MARK: from none to 6 and 5
    private static void lengths() {
        for (int tests = 0; tests <= 6; tests++) {
            for (int marks = 0; marks <= 5; marks++) {
                KingsTest x = Checks.made(Edges.each(tests, "test t# harm 1;") + Edges.each(marks, "mark m# true 1 false 1;"));
                dueImage(tests + " and " + marks, x, new int[4 + 2 * tests + 2 * marks]);
            }
        }
        Checks.due("32: the longest", Checks.made(FULL).image(), 27);
        Checks.due("32: the shortest", new KingsTest().image(), 5);
    }

    // "cases judged so far (two bytes, the higher first)"
    private static void casesInTwoBytes() {
        for (int cases : new int[] {0, 1, 254, 255, 256, 257, 511, 512, 9983, 9984, 9998, 9999}) {
            KingsTest x = Edges.imaged(A, cases / 256, cases % 256, 0, 0);
            Checks.due("6: cases", x.has(4), cases);
            dueImage(cases + " cases", x, cases / 256, cases % 256, 0, 0);
        }
        KingsTest x = Edges.imaged(A, 0, 255, 0, 0);
        x.judge(0);
        dueImage("255 and one", x, 1, 0, 0, 0);
    }

    // "harm done (two bytes)"
    private static void harmInTwoBytes() {
        for (int harm : new int[] {0, 1, 254, 255, 256, 257, 511, 512, 9983, 9984, 9998, 9999}) {
            KingsTest x = Edges.imaged(A, 0, 0, harm / 256, harm % 256);
            Checks.due("6: harm", x.has(5), harm);
            dueImage(harm + " harm", x, 0, 0, harm / 256, harm % 256);
        }
        KingsTest x = Edges.imaged(A + "test t harm 1;", 0, 0, 0, 255, 0, 2);
        x.judge(0);
        dueImage("255 and one", x, 0, 1, 1, 0, 1, 0);
    }

    // "in how many cases it was HEARD, and how it was in this one (0 not, 1 none yielded, 2 just 0, 3 just 1, 4 both)"
    private static void timesAndHows() {
        String court = "kind a love 9 wit 0 true 1 false 1;kind b love 1 wit 0 true 1 false 1;" + Edges.each(5, "test t# harm 1;")
            + "mark m true 1 false 1;mark n true 1 false 1;yields love>5;";
        KingsTest x = Checks.made(court);
        for (int how = 1; how <= 4; how++) {
            Checks.due("25: hear", x.hear(how, (how - 1) & 1, (how - 1) >> 1), true);
            int[] due = new int[18];
            due[5 + 2 * how] = how;
            dueImage("how " + how, x, due);
            x.undo();
        }
        x.look(0, 0, 0);
        x.look(1, 1, 1);
        int[] looked = new int[18];
        looked[14] = 1;
        looked[17] = 2;
        dueImage("(0 not looked for, 1 not seen, 2 seen)", x, looked);
        x.look(0, 1, 1);
        x.look(1, 0, 0);
        looked[15] = 2;
        looked[16] = 1;
        dueImage("of CLAIMANT 0, then of 1", x, looked);
        for (int test = 0; test < 5; test++) {
            x.hear(test, 1, 1);
        }
        x.judge(0);
        dueImage("each HEARD in one case", x, 0, 1, 0, 5, 1, 0, 1, 0, 1, 0, 1, 0, 1, 0, 0, 0, 0, 0);
    }

    // "last a byte: all ahead from 61 on, c = (3 c + it) mod 251"
    private static void lastByte() {
        KingsTest x = new KingsTest();
        Checks.due("32: image()", x.image(), 5);
        Checks.due("32: 61 times 81 mod 251", x.octet(4), 61 * 81 % 251);
        x.judge(0);
        x.image();
        Checks.due("32: 3 * 3 for one case", x.octet(4), (61 * 81 + 9) % 251);
    }

    // each byte from 0 to 250 comes as the last one, and is taken; no other is
    private static void everyLastByte() {
        boolean[] seen = new boolean[256];
        for (int cases = 0; cases < 251; cases++) {
            KingsTest x = Edges.imaged("", 0, cases, 0, 0);
            dueImage(cases + " cases", x, 0, cases, 0, 0);
            int last = x.octet(4);
            seen[last] = true;
            for (int wrong : new int[] {(last + 1) % 256, (last + 255) % 256, (last + 251) % 256, 251, 255}) {
                Checks.due("34: last byte " + wrong + " is " + last, Checks.on(x, 0, cases, 0, 0, wrong), false);
            }
            Checks.due("6: cases stay", x.has(4), cases);
            Checks.due("35: five refused", x.status(5), 5);
        }
        for (int last = 0; last < 256; last++) {
            Checks.due("32: last byte " + last, seen[last], last < 251);
        }
    }

    // "NONE when there is none such"
    private static void octetsOfNone() {
        for (int k : new int[] {-1, 0, 1, 4, 5, 27, Integer.MIN_VALUE, Integer.MAX_VALUE}) {
            Checks.due("33: octet(" + k + ") ahead of any image()", Checks.made(FULL).octet(k), -1);
        }
        for (int k : new int[] {-1, -2, 11, 12, 27, 256, Integer.MIN_VALUE, Integer.MAX_VALUE}) {
            Edges.dueNone("33: octet(" + k + ")", Edges::rich, x -> x.octet(k), -1);
        }
        KingsTest x = Checks.made(FULL);
        x.image();
        Checks.due("33: octet(26)", x.octet(26) >= 0, true);
        Checks.due("33: octet(27)", x.octet(27), -1);
    }

    // "of the latest image()"
    private static void latestImage() {
        KingsTest x = Checks.made(FULL);
        x.image();
        x.judge(0);
        Checks.due("33: as it was", x.octet(1), 0);
        Checks.court(x, "");
        Checks.due("33: still", x.octet(26) >= 0, true);
        x.image();
        Checks.due("33: the latest is shorter", x.octet(5), -1);
        Checks.due("33: its last byte", x.octet(4), 172);
    }

    private static void imageIsNoAct() {
        KingsTest x = Edges.rich();
        KingsTest twin = Edges.rich();
        x.judge(0);
        x.undo();
        Checks.due("32: image()", x.image(), 11);
        twin.image();
        Checks.due("32: all stays", Edges.told(x).equals(Edges.told(twin)), true);
        Checks.due("6: ACTS", x.has(10), 5);
        Checks.due("32: the tape stays", x.feed(0, 0, 0, 0, 0), 57);
    }

    // an image of rich()'s court: not one, refused, all staying
    private static void dueNone(String why, int... octets) {
        Edges.dueRefusedTape("34: " + why, Checks.octets(octets), x -> Edges.bit(x.on()), 0, 5);
    }

    private static void dueOn(String why, int... octets) {
        KingsTest x = Edges.rich();
        Checks.due("34: " + why, Checks.onChecked(x, octets), true);
        Checks.due("34: the tape goes", x.feed(0, 0, 0, 0, 0), 20);
        Checks.due("35: no refusal", x.status(5), 0);
        dueImage(why, x, octets);
    }

    private static int[] with(int at, int octet) {
        int[] octets = SHORT.clone();
        octets[at] = octet;
        return octets;
    }

    private static int[] withPair(int at, int number) {
        int[] octets = SHORT.clone();
        octets[at] = number / 256;
        octets[at + 1] = number % 256;
        return octets;
    }

    // "(cases, harm 9999 .. at most)"
    private static void casesAtMost() {
        for (int cases : new int[] {0, 9998, 9999}) {
            dueOn("cases " + cases, withPair(0, cases));
        }
        for (int cases : new int[] {10000, 10001, 10239, 10240, 32767, 32768, 65535}) {
            dueNone("cases " + cases, withCheck(withPair(0, cases)));
        }
    }

    private static void harmAtMost() {
        for (int harm : new int[] {0, 9998, 9999}) {
            dueOn("harm " + harm, withPair(2, harm));
        }
        for (int harm : new int[] {10000, 10001, 10239, 10240, 32767, 32768, 65535}) {
            dueNone("harm " + harm, withCheck(withPair(2, harm)));
        }
    }

    // "HEARD 99 at most"
    private static void heardAtMost() {
        for (int at = 4; at <= 6; at += 2) {
            for (int times : new int[] {0, 1, 5, 98, 99}) {
                dueOn("HEARD " + times, with(at, times));
            }
            for (int times : new int[] {100, 101, 127, 128, 255}) {
                dueNone("HEARD " + times, withCheck(with(at, times)));
            }
        }
    }

    // "(0 not, 1 none yielded, 2 just 0, 3 just 1, 4 both)"
    private static void howsAtMost() {
        for (int at = 5; at <= 7; at += 2) {
            for (int how = 0; how <= 4; how++) {
                dueOn("how " + how, with(at, how));
            }
            for (int how : new int[] {5, 6, 99, 128, 255}) {
                dueNone("how " + how, withCheck(with(at, how)));
            }
        }
    }

    // "(0 not looked for, 1 not seen, 2 seen)"
    private static void looksAtMost() {
        for (int at = 8; at <= 9; at++) {
            for (int how = 0; how <= 2; how++) {
                dueOn("looked for " + how, with(at, how));
            }
            for (int how : new int[] {3, 4, 99, 128, 255}) {
                dueNone("looked for " + how, withCheck(with(at, how)));
            }
        }
    }

    // "AN IMAGE of this COURT": of its length alone
    private static void ofThisCourt() {
        for (int length = 0; length <= 30; length++) {
            if (length != 10) {
                dueNone("of length " + (length + 1), withCheck(new int[length]));
            }
        }
        dueNone("no byte at all");
        dueNone("a tape that is full", new int[1600]);
        dueNone("without its last byte", SHORT);
        for (int tests = 0; tests <= 2; tests++) {
            KingsTest x = Checks.made(Edges.each(tests, "test t# harm 1;") + Edges.each(2 - tests, "mark m# true 1 false 1;"));
            Checks.due("34: of as many in all", Checks.onChecked(x, 0, 0, 0, 0, 0, 0, 0, 0), true);
            Checks.due("34: one too many", Checks.onChecked(x, 0, 0, 0, 0, 0, 0, 0, 0, 0), false);
            Checks.due("34: one too few", Checks.onChecked(x, 0, 0, 0, 0, 0, 0, 0), false);
            Checks.due("34: the first pair is a test's", Checks.onChecked(x, 0, 0, 0, 0, 3, 0, 0, 0), tests > 0);
            Checks.due("34: the second pair is a test's", Checks.onChecked(x, 0, 0, 0, 0, 0, 0, 3, 0), tests > 1);
        }
    }

    private static void lastByteWrong() {
        int[] all = withCheck(0, 3, 0, 40, 2, 1, 3, 0, 0, 2);
        for (int last = 0; last < 256; last++) {
            if (last != all[10]) {
                int[] wrong = all.clone();
                wrong[10] = last;
                KingsTest x = Edges.rich();
                Checks.due("34: last byte " + last, Checks.on(x, wrong), false);
                Checks.due("35: refused", x.status(5), 1);
                Checks.due("6: cases stay", x.has(4), 3);
            }
        }
        for (int at = 0; at < 10; at++) {
            int[] wrong = all.clone();
            wrong[at] ^= 1;
            dueNone("byte " + at + " is another", wrong);
        }
        dueNone("its last byte is one more", withLast(all, all[10] + 1));
        dueNone("its last byte is one less", withLast(all, all[10] - 1));
        dueOn("as it is", 0, 3, 0, 40, 2, 1, 3, 0, 0, 2);
    }

    private static int[] withLast(int[] all, int last) {
        int[] other = all.clone();
        other[10] = last;
        return other;
    }

    // "nothing is KEPT or can be undone"; what is ANSWERED and the seed are none of it
    private static void nothingToUndo() {
        KingsTest x = Edges.rich();
        KingsTest twin = Edges.rich();
        Checks.due("34: on", Checks.onChecked(x, SHORT), true);
        Checks.due("6: KEPT", x.has(8), 0);
        Checks.due("12: KEPT", x.kept(0, 0), -1);
        Checks.due("6: ACTS", x.has(10), 0);
        Checks.due("29: undo", x.undo(), false);
        Checks.due("6: ANSWERED stays", x.has(9), 1);
        Checks.due("24: ANSWERED stays", x.trick(), 1);
        Checks.onChecked(twin, SHORT);
        Checks.court(twin, Edges.TWO);
        Checks.due("34: the seed stays", x.chance(9), twin.chance(9));
        for (int k = 0; k < 9; k++) {
            Checks.due("34: the seed stays, kept(" + k + ", 3)", x.kept(k, 3), twin.kept(k, 3));
        }
        x.judge(1);
        Checks.due("29: what comes then can be undone", x.undo(), true);
        Checks.due("29: and the cases by the seed", x.undo(), true);
        Checks.due("29: no more", x.undo(), false);
    }

    // "(No WORLD may have WEIGHT then.)"
    private static void withoutWeight() {
        KingsTest x = Edges.imaged(A + "test t harm 5;", 0, 0, 0, 0, 0, 4);
        Checks.due("13: weight", x.weight(0, 0, 0), 0);
        Checks.due("14: odds", x.odds(0), -1);
        Checks.due("9: both", x.test(0, 2), 4);
        dueImage("as it was told", x, 0, 0, 0, 0, 0, 4);
        Checks.due("27: it can be judged", x.judge(0), 1);
        Checks.due("14: odds", x.odds(0), 500000);
        x.undo();
        Checks.due("14: odds", x.odds(0), -1);
        x = Edges.imaged("test t harm 5;", 0, 0, 0, 0, 1, 1);
        Checks.due("27: nor are there KINDS", x.judge(1), 1);
        Checks.due("9: HEARD", x.test(0, 1), 2);
    }

    // an image taken by another object tells it all again
    private static void backAgain() {
        KingsTest x = Edges.rich();
        int length = x.image();
        int[] octets = new int[length];
        for (int k = 0; k < length; k++) {
            octets[k] = x.octet(k);
        }
        KingsTest other = Checks.made(Edges.TWO);
        Checks.due("34: on", Checks.on(other, octets), true);
        Checks.due("32: the same length", other.image(), length);
        for (int k = 0; k < length; k++) {
            Checks.due("33: octet(" + k + ") again", other.octet(k), octets[k]);
        }
        Checks.due("14: odds", other.odds(0), x.odds(0));
        Checks.due("18: best", other.best(), x.best());
    }

    // of each number of tests and MARKS, each byte another one
    private static void eachByteBackAgain() {
        for (int tests = 0; tests <= 6; tests++) {
            for (int marks = 0; marks <= 5; marks++) {
                String court = Edges.each(tests, "test t# harm 1;") + Edges.each(marks, "mark m# true 1 false 1;");
                int[] octets = new int[4 + 2 * tests + 2 * marks];
                octets[0] = 7;
                octets[1] = 8;
                octets[2] = 9;
                octets[3] = 10;
                for (int test = 0; test < tests; test++) {
                    octets[4 + 2 * test] = 90 + test;
                    octets[5 + 2 * test] = (test + marks) % 5;
                }
                for (int i = 0; i < 2 * marks; i++) {
                    octets[4 + 2 * tests + i] = (i * i + i / 3 + tests) % 3;
                }
                dueAllOf(Edges.imaged(court, octets), tests, marks, octets);
            }
        }
    }

    private static void dueAllOf(KingsTest x, int tests, int marks, int[] octets) {
        dueImage(tests + " and " + marks, x, octets);
        Checks.due("6: cases", x.has(4), 256 * 7 + 8);
        Checks.due("6: harm", x.has(5), 256 * 9 + 10);
        for (int test = 0; test < tests; test++) {
            Checks.due("9: HEARD", x.test(test, 1), octets[4 + 2 * test]);
            Checks.due("9: how", x.test(test, 2), octets[5 + 2 * test]);
        }
        int looked = 0;
        for (int i = 0; i < 2 * marks; i++) {
            int how = octets[4 + 2 * tests + i];
            looked += how > 0 ? 1 : 0;
            Checks.due("10: how", x.mark(i / 2, 2 + i % 2), how);
        }
        Checks.due("6: MARKS looked for", x.has(7), looked);
    }

    // "0 feed(), end(); 1 court(), tell(); 2 hear(), look(), judge(); 3 chance(); 4 undo(); 5 seed(), on()"
    private static void countsOfEach() {
        KingsTest x = new KingsTest();
        Edges.Call[] refused = {y -> y.end(1) ? 1 : 0, y -> Checks.court(y, "?"), KingsTest::tell, y -> y.hear(0, 0, 0) ? 1 : 0,
            y -> y.look(0, 0, 0) ? 1 : 0, y -> y.judge(2), y -> y.chance(0), y -> y.undo() ? 1 : 0, y -> y.seed(-1) ? 1 : 0,
            y -> y.on() ? 1 : 0};
        int[] sorts = {0, 1, 1, 2, 2, 2, 3, 4, 5, 5};
        int[] counts = new int[6];
        for (int round = 1; round <= 3; round++) {
            for (int i = 0; i < refused.length; i++) {
                refused[i].of(x);
                counts[sorts[i]]++;
                for (int what = 0; what < 6; what++) {
                    Checks.due("35: status(" + what + ") behind call " + i, x.status(what), counts[what]);
                }
            }
        }
        for (int i = 0; i < 80; i++) {
            x.feed(0, 0, 0, 0, 0);
        }
        Checks.due("35: feed() was taken", x.status(0), 3);
        x.feed(0, 0, 0, 0, 0);
        Checks.due("35: feed() was refused", x.status(0), 4);
    }

    // "NONE for others"
    private static void countsOfNone() {
        for (int what : new int[] {-1, 6, 7, Integer.MIN_VALUE, Integer.MAX_VALUE}) {
            Edges.dueNone("35: status(" + what + ")", Edges::rich, x -> x.status(what), -1);
        }
        for (int what = 0; what < 6; what++) {
            Checks.due("35: status(" + what + ") at first", new KingsTest().status(what), 0);
            Checks.due("35: status(" + what + ") without a refusal", Edges.rich().status(what), 0);
        }
    }

    // a call that is taken, or answered with "none", counts nothing
    private static void countsStay() {
        KingsTest x = Edges.rich();
        x.undo();
        x.undo();
        x.merit(99);
        x.odds(7);
        x.ahead(30, 0);
        x.known(0, 100);
        x.kept(99, 0);
        x.octet(99);
        x.has(99);
        x.letter(9, 9, 9);
        Checks.ask(x, "?");
        x.end(0);
        for (int what = 0; what < 6; what++) {
            Checks.due("35: status(" + what + ")", x.status(what), 0);
        }
        x.end(-1);
        Checks.court(x, Edges.TWO);
        Checks.onChecked(x, SHORT);
        Checks.due("35: a count stays behind a court and an image", x.status(0), 1);
    }
}
