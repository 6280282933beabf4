/** Promises 1 to 3 and 6 to 10: the tape from empty to full, and what is told of what there is and is not. */
public final class TapeEdgesTest {
    private static final int[] FAR = {-2, 99, 1000, Integer.MIN_VALUE, Integer.MAX_VALUE};
    private static final String FULL = Edges.each(6, "kind # love 1 wit 1 true 1 false 1;")
        + Edges.each(6, "test t# harm 1;") + Edges.each(5, "mark m# true 1 false 1;");

    public static void main(String[] args) {
        atFirst();
        fedToTheFull();
        fedBeyond();
        fedWhenCutOff();
        highestFirst();
        endAtLength();
        endBeyond();
        endWhenEmpty();
        hasOthers();
        hasInThisCase();
        letters();
        kindRows();
        testRows();
        markRows();
        Checks.finish();
    }

    // "A new object: No KINDS, no tests."
    private static void atFirst() {
        KingsTest x = new KingsTest();
        int[] first = {0, 0, 0, 50, 0, 0, 0, 0, 0, 0, 0};
        for (int what = 0; what < first.length; what++) {
            Checks.due("1: has(" + what + ")", x.has(what), first[what]);
        }
        Checks.due("1: the tape is empty", x.end(1), false);
        Checks.due("1: the tape is empty", x.feed(0, 0, 0, 0, 0), 20);
        Checks.due("1: no image", x.octet(0), -1);
        Checks.due("1: best()", x.best(), -1);
        Checks.due("1: no test it can be", x.trick(), 0);
        Checks.due("1: merit(0), no WORLD", x.merit(0), KingsTest.NOTHING);
    }

    private static KingsTest fed(int bytes) {
        KingsTest x = new KingsTest();
        for (int i = 0; i < (bytes + 19) / 20; i++) {
            x.feed(0x20202020, 0x20202020, 0x20202020, 0x20202020, 0x20202020);
        }
        x.end(bytes);
        return x;
    }

    // "how many there are": from 20 to 1600
    private static void fedToTheFull() {
        KingsTest x = new KingsTest();
        for (int i = 1; i <= 80; i++) {
            Checks.due("2: feed, the " + i + "th", x.feed(0x20202020, 0x0A0A0A0A, 0x20202020, 0x20202020, 0x20202020), 20 * i);
        }
        Checks.due("2: no refusal", x.status(0), 0);
        Checks.due("2: 1600 blanks are a court", x.court(), 0);
        Checks.due("2: and empty again", x.feed(0, 0, 0, 0, 0), 20);
    }

    // "NONE, refused (0), if there would be more than 1600"
    private static void fedBeyond() {
        Edges.dueRefused("2: feed to 1620", () -> fed(1600), x -> x.feed(1, 2, 3, 4, 5), -1, 0);
        Edges.dueRefused("2: feed to 1601", () -> fed(1581), x -> x.feed(1, 2, 3, 4, 5), -1, 0);
        Edges.dueRefused("2: feed to 1619", () -> fed(1599), x -> x.feed(1, 2, 3, 4, 5), -1, 0);
        Checks.due("2: feed to 1600", fed(1580).feed(1, 2, 3, 4, 5), 1600);
        Checks.due("2: feed to 1599", fed(1579).feed(1, 2, 3, 4, 5), 1599);
        KingsTest x = fed(1581);
        x.feed(-1, -1, -1, -1, -1);
        Checks.due("2: no byte of it is taken", x.court(), 0);
        x = fed(1580);
        x.feed(0x66697273, 0x74203733, 0x3B202020, 0x20202020, 0x2020203F);
        Checks.due("2: the 1600th byte is taken", x.court(), -1);
        Checks.due("2: the 1600th byte is told of", x.fault(1), 1599);
    }

    private static void fedWhenCutOff() {
        KingsTest x = fed(1600);
        Checks.due("2: full", x.feed(0, 0, 0, 0, 0), -1);
        Checks.due("3: end(1580)", x.end(1580), true);
        Checks.due("2: room again", x.feed(0, 0, 0, 0, 0), 1600);
        Checks.due("2: full again", x.feed(0, 0, 0, 0, 0), -1);
        Checks.due("3: end(0)", x.end(0), true);
        Checks.due("2: from empty", x.feed(0, 0, 0, 0, 0), 20);
        Checks.due("35: two refused", x.status(0), 2);
    }

    // "Twenty bytes .., of each number the highest first": each of the 20, and bytes above 127
    private static void highestFirst() {
        String text = "first 42;price 1234;";
        byte[] bytes = Checks.bytes(text);
        for (int wrong = 0; wrong < 20; wrong++) {
            int[] n = new int[5];
            for (int i = 0; i < 20; i++) {
                n[i / 4] = n[i / 4] << 8 | (i == wrong ? 0xFF : bytes[i]);
            }
            KingsTest x = new KingsTest();
            x.feed(n[0], n[1], n[2], n[3], n[4]);
            Checks.due("2: byte " + wrong + " is another", x.court(), -1);
            int within = wrong < 5 ? 0 : wrong >= 9 && wrong < 14 ? 9 : wrong;
            Checks.due("2: the place of byte " + wrong, x.fault(1), within);
        }
        KingsTest x = new KingsTest();
        x.feed(0x00000000, 0xAC202020, -1, Integer.MIN_VALUE, Integer.MAX_VALUE);
        x.end(5);
        Checks.due("2: bytes 0 and above 127 are bytes of an image", x.on(), true);
    }

    // "The tape has its first n bytes alone": 0, some, all it has
    private static void endAtLength() {
        for (int n = 0; n <= 40; n++) {
            KingsTest x = fed(40);
            Checks.due("3: end(" + n + ") of 40", x.end(n), true);
            Checks.due("3: no refusal", x.status(0), 0);
            Checks.due("3: feed behind " + n, x.feed(0, 0, 0, 0, 0), n + 20);
        }
        KingsTest x = fed(1600);
        Checks.due("3: end(1600) of 1600", x.end(1600), true);
        x = new KingsTest();
        x.feed(0x66697273, 0x74203432, 0x3B3F3F3F, 0x3F3F3F3F, 0x3F3F3F3F);
        Checks.due("3: the first 9 bytes", x.end(9), true);
        Checks.due("3: alone", x.court(), 1);
        Checks.due("3: first", x.has(3), 42);
    }

    // "false, refused (0), if it has not so many, or n is below 0"
    private static void endBeyond() {
        for (int n : new int[] {41, 42, 60, 1600, 1601, Integer.MAX_VALUE, -1, -40, Integer.MIN_VALUE}) {
            Edges.dueRefused("3: end(" + n + ") of 40", () -> fed(40), x -> Edges.bit(x.end(n)), 0, 0);
        }
        for (int n : new int[] {38, -1, Integer.MIN_VALUE, Integer.MAX_VALUE}) {
            Edges.dueRefused("3: end(" + n + ") of 37", Edges::rich, x -> Edges.bit(x.end(n)), 0, 0);
        }
        Edges.dueRefused("3: end(1601) of 1600", () -> fed(1600), x -> Edges.bit(x.end(1601)), 0, 0);
        KingsTest x = fed(40);
        x.end(20);
        Checks.due("3: what was cut off is gone", x.end(21), false);
        Checks.due("3: what is left is there", x.end(20), true);
    }

    private static void endWhenEmpty() {
        Checks.due("3: end(0) of none", new KingsTest().end(0), true);
        Edges.dueRefused("3: end(1) of none", KingsTest::new, x -> Edges.bit(x.end(1)), 0, 0);
        Edges.dueRefused("3: end(-1) of none", KingsTest::new, x -> Edges.bit(x.end(-1)), 0, 0);
        KingsTest x = fed(40);
        x.court();
        Checks.due("3: the tape has gone", x.end(1), false);
        Checks.due("3: the tape has gone", x.end(0), true);
    }

    // "NONE for others"
    private static void hasOthers() {
        for (int what : new int[] {-1, 11, 12, Integer.MIN_VALUE, Integer.MAX_VALUE}) {
            Edges.dueNone("6: has(" + what + ")", Edges::rich, x -> x.has(what), -1);
        }
        KingsTest x = Edges.rich();
        int[] all = {2, 2, 1, 60, 3, x.has(5), 1, 1, 3, 1, 5};
        for (int what = 0; what <= 10; what++) {
            Checks.due("6: has(" + what + ")", x.has(what), all[what]);
        }
    }

    // "7 MARKS looked for in it (at both together)": none, one at each, all; "6 tests heard in this case"
    private static void hasInThisCase() {
        KingsTest x = Checks.made(FULL);
        for (int i = 0; i < 10; i++) {
            Checks.due("6: MARKS looked for", x.has(7), i);
            x.look(i % 5, i / 5, i % 2);
        }
        Checks.due("6: all MARKS looked for at both", x.has(7), 10);
        for (int test = 0; test < 6; test++) {
            Checks.due("6: tests heard", x.has(6), test);
            Checks.due("25: hear", x.hear(test, 1, 0), true);
        }
        Checks.due("6: all tests heard", x.has(6), 6);
        Checks.due("6: ACTS", x.has(10), 16);
        x.judge(0);
        Checks.due("6: nothing heard in the new case", x.has(6), 0);
        Checks.due("6: nothing looked for in the new case", x.has(7), 0);
        x.undo();
        Checks.due("6: heard again", x.has(6), 6);
        Checks.due("6: looked for again", x.has(7), 10);
    }

    // "Letter k (0 .. 5) ..: 1 .. 26; 0 behind it; NONE when there is none such"
    private static void letters() {
        KingsTest x = Checks.made("kind a love 1 wit 1 true 1 false 1;test zyxwv harm 1;mark abcxyz true 1 false 1;");
        int[][] names = {{1, 0, 0, 0, 0, 0}, {26, 25, 24, 23, 22, 0}, {1, 2, 3, 24, 25, 26}};
        for (int kind = 0; kind < 3; kind++) {
            for (int k = 0; k < 6; k++) {
                Checks.due("7: letter(" + kind + ", 0, " + k + ")", x.letter(kind, 0, k), names[kind][k]);
            }
            for (int k : new int[] {-1, 6, 7, Integer.MIN_VALUE, Integer.MAX_VALUE}) {
                Checks.due("7: letter(" + kind + ", 0, " + k + ")", x.letter(kind, 0, k), -1);
            }
            for (int which : new int[] {-1, 1, 5, 6, Integer.MIN_VALUE, Integer.MAX_VALUE}) {
                Checks.due("7: letter(" + kind + ", " + which + ", 0)", x.letter(kind, which, 0), -1);
            }
        }
        KingsTest full = Checks.made(FULL);
        int[] last = {5, 5, 4};
        for (int kind = 0; kind < 3; kind++) {
            Checks.due("7: the last one", full.letter(kind, last[kind], 0) > 0, true);
            Checks.due("7: behind the last one", full.letter(kind, last[kind] + 1, 0), -1);
        }
        for (int kind : new int[] {-1, 3, 4, Integer.MIN_VALUE, Integer.MAX_VALUE}) {
            Checks.due("7: letter(" + kind + ", 0, 0)", full.letter(kind, 0, 0), -1);
        }
        Edges.dueNone("7: behind the last KIND", Edges::rich, y -> y.letter(0, 2, 0), -1);
        Edges.dueNone("7: behind the last letter", Edges::rich, y -> y.letter(0, 1, 6), -1);
        Edges.dueNone("7: no such sort", Edges::rich, y -> y.letter(3, 0, 0), -1);
    }

    // "NONE when there is none such, or for others"
    private static void kindRows() {
        KingsTest x = Checks.made(FULL.replace("f love 1 wit 1 true 1 false 1", "f love 99 wit 0 true 9 false 0"));
        int[] last = {99, 0, 9, 0};
        for (int what = 0; what < 4; what++) {
            Checks.due("8: kind(5, " + what + ")", x.kind(5, what), last[what]);
            Checks.due("8: kind(6, " + what + ")", x.kind(6, what), -1);
            Checks.due("8: kind(-1, " + what + ")", x.kind(-1, what), -1);
        }
        Checks.due("8: kind(5, 4)", x.kind(5, 4), -1);
        Checks.due("8: kind(5, -1)", x.kind(5, -1), -1);
        for (int far : FAR) {
            Checks.due("8: kind(" + far + ", 0)", x.kind(far, 0), -1);
            Checks.due("8: kind(0, " + far + ")", x.kind(0, far), -1);
        }
        Checks.due("8: of none", new KingsTest().kind(0, 0), -1);
        Edges.dueNone("8: behind the last KIND", Edges::rich, y -> y.kind(2, 0), -1);
        Edges.dueNone("8: for others", Edges::rich, y -> y.kind(1, 4), -1);
    }

    private static void testRows() {
        KingsTest x = Checks.made(FULL.replace("tf harm 1", "tf harm 99"));
        x.hear(5, 0, 1);
        int[] last = {99, 0, 3};
        for (int what = 0; what < 3; what++) {
            Checks.due("9: test(5, " + what + ")", x.test(5, what), last[what]);
            Checks.due("9: test(6, " + what + ")", x.test(6, what), -1);
            Checks.due("9: test(-1, " + what + ")", x.test(-1, what), -1);
        }
        Checks.due("9: test(5, 3)", x.test(5, 3), -1);
        Checks.due("9: test(5, -1)", x.test(5, -1), -1);
        for (int far : FAR) {
            Checks.due("9: test(" + far + ", 0)", x.test(far, 0), -1);
            Checks.due("9: test(0, " + far + ")", x.test(0, far), -1);
        }
        Checks.due("9: of none", new KingsTest().test(0, 0), -1);
        Edges.dueNone("9: behind the last test", Edges::rich, y -> y.test(2, 0), -1);
        Edges.dueNone("9: for others", Edges::rich, y -> y.test(1, 3), -1);
        // "2 how it was in this one (0 .. 4 as in AN IMAGE)"
        for (int how = 0; how <= 4; how++) {
            KingsTest y = Edges.imaged("test t harm 1;test u harm 1;", 0, 0, 0, 0, 0, 0, 99, how);
            Checks.due("9: how it was, " + how, y.test(1, 2), how);
            Checks.due("9: HEARD in 99", y.test(1, 1), 99);
            Checks.due("9: the other one", y.test(0, 1) + y.test(0, 2), 0);
        }
    }

    private static void markRows() {
        KingsTest x = Checks.made(FULL.replace("me true 1 false 1", "me true 9 false 8"));
        x.look(4, 0, 0);
        x.look(4, 1, 1);
        int[] last = {9, 8, 1, 2};
        for (int what = 0; what < 4; what++) {
            Checks.due("10: mark(4, " + what + ")", x.mark(4, what), last[what]);
            Checks.due("10: mark(5, " + what + ")", x.mark(5, what), -1);
            Checks.due("10: mark(-1, " + what + ")", x.mark(-1, what), -1);
        }
        Checks.due("10: mark(4, 4)", x.mark(4, 4), -1);
        Checks.due("10: mark(4, -1)", x.mark(4, -1), -1);
        Checks.due("10: mark(3, 2), not looked for", x.mark(3, 2), 0);
        for (int far : FAR) {
            Checks.due("10: mark(" + far + ", 0)", x.mark(far, 0), -1);
            Checks.due("10: mark(0, " + far + ")", x.mark(0, far), -1);
        }
        Checks.due("10: of none", new KingsTest().mark(0, 0), -1);
        Edges.dueNone("10: behind the last MARK", Edges::rich, y -> y.mark(1, 0), -1);
        Edges.dueNone("10: for others", Edges::rich, y -> y.mark(0, 4), -1);
    }
}
