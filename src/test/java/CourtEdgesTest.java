import java.util.function.ToLongFunction;

/** Terms I and promises 4, 5: each sentence on a court's text that names a boundary, at it and just beyond. */
public final class CourtEdgesTest {
    private static final String KIND = "kind # love 1 wit 1 true 1 false 1;";
    private static final String TEST = "test t# harm 1;";
    private static final String MARK = "mark m# true 1 false 1;";

    public static void main(String[] args) {
        statementsAtMost();
        statementBeyond();
        kindsAtMost();
        testsAtMost();
        marksAtMost();
        yieldsOnce();
        eachAtMostTogether();
        ofKinds();
        ofTests();
        ofMarks();
        ofFirst();
        ofPrice();
        ofParts();
        lastOneCounts();
        withoutAny();
        wholeTape();
        faultAheadOfAny();
        latestFault();
        firstAlongTheText();
        asAtFirst();
        courtsInTurn();
        seedStays();
        Checks.finish();
    }

    // "{ STATEMENT ; } (60 at most)"
    private static void statementsAtMost() {
        Edges.dueTaken("", 0);
        Edges.dueTaken(" \n\n ", 0);
        Edges.dueTaken("price 7;", 1);
        Edges.dueTaken("price 7;".repeat(59), 59);
        Edges.dueTaken("price 7;".repeat(60), 60);
        Edges.dueTaken("price 7;".repeat(60) + " \n \n", 60);
        Edges.dueFault("price 7;".repeat(61), 5, 480);
        Edges.dueFault(";", 1, 0);
        Edges.dueFault("price 7;".repeat(59) + ";", 1, 472);
    }

    // "5 .. a 61st STATEMENT (whatever stands there), at its first byte"
    private static void statementBeyond() {
        String sixty = "price 7;".repeat(60);
        String[] whatever = {"price 7;", "price", "p", "kind", "yields", ";", "?", "5", "abcdefg", "12345", "\u00e9", "\u0000", "\t"};
        for (String stands : whatever) {
            Edges.dueFault(sixty + stands, 5, 480);
            Edges.dueFault(sixty + "\n  " + stands, 5, 483);
            Edges.dueFault("price 7;".repeat(61) + stands, 5, 480);
        }
        String many = Edges.each(6, KIND) + "price 7;".repeat(54);
        Edges.dueFault(many + Edges.each(1, KIND), 5, many.length());
        Edges.dueFault("price 7;".repeat(59) + "?", 1, 472);
        Edges.dueFault("price 7;".repeat(59) + "price 7", 1, 479);
    }

    // "6 KINDS", "5 one too many of a kind .., at its first byte"
    private static void kindsAtMost() {
        String five = Edges.each(5, KIND);
        String six = Edges.each(6, KIND);
        Checks.due("I: 5 KINDS", Edges.dueTaken(five, 5).has(0), 5);
        Checks.due("I: 6 KINDS", Edges.dueTaken(six, 6).has(0), 6);
        Checks.due("I: the 6th KIND", Edges.dueTaken(six, 6).letter(0, 5, 0), 6);
        dueTooMany(six, "kind", KIND.replace('#', 'g'));
    }

    // "6 TESTS"
    private static void testsAtMost() {
        String five = Edges.each(5, TEST);
        String six = Edges.each(6, TEST);
        Checks.due("I: 5 tests", Edges.dueTaken(five, 5).has(1), 5);
        Checks.due("I: 6 tests", Edges.dueTaken(six, 6).has(1), 6);
        Checks.due("I: the 6th test", Edges.dueTaken(six, 6).letter(1, 5, 1), 6);
        dueTooMany(six, "test", TEST.replace('#', 'g'));
    }

    // "5 MARKS"
    private static void marksAtMost() {
        String four = Edges.each(4, MARK);
        String five = Edges.each(5, MARK);
        Checks.due("I: 4 MARKS", Edges.dueTaken(four, 4).has(2), 4);
        Checks.due("I: 5 MARKS", Edges.dueTaken(five, 5).has(2), 5);
        Checks.due("I: the 5th MARK", Edges.dueTaken(five, 5).letter(2, 4, 1), 5);
        dueTooMany(five, "mark", MARK.replace('#', 'f'));
    }

    // "yields TEST (one ..)", "5 .. (a second yields, too)"
    private static void yieldsOnce() {
        Edges.dueTaken("yields all;", 1);
        dueTooMany("yields all;", "yields", "yields all;");
        dueTooMany("yields all;" + Edges.each(6, TEST), "yields", "yields not all;");
        Edges.dueTaken("first 1;".repeat(30) + "price 1;".repeat(30), 60);
    }

    // one too many is told at its first byte, however it goes on; another word there is none of them
    private static void dueTooMany(String all, String word, String oneMore) {
        int at = all.length();
        Edges.dueFault(all + oneMore, 5, at);
        Edges.dueFault(all + " \n" + oneMore, 5, at + 2);
        Edges.dueFault(all + "first 7;" + oneMore, 5, at + 8);
        Edges.dueFault(all + word, 5, at);
        Edges.dueFault(all + word + " 7", 5, at);
        Edges.dueFault(all + word + "s", 1, at);
        Edges.dueFault(all + word.substring(1), 1, at);
        Edges.dueFault(all + "?" + oneMore, 1, at);
    }

    private static void eachAtMostTogether() {
        String all = Edges.each(6, KIND) + Edges.each(6, TEST) + Edges.each(5, MARK) + "yields all;";
        KingsTest x = Edges.dueTaken(all, 18);
        Checks.due("I: 6 KINDS, 6 tests, 5 MARKS", x.has(0) * 100 + x.has(1) * 10 + x.has(2), 665);
        Checks.due("I: the same once more", Checks.court(x, all), 18);
        Checks.due("I: as many as before", x.has(0) * 100 + x.has(1) * 10 + x.has(2), 665);
        Edges.dueFault(all + "kind", 5, all.length());
        Edges.dueFault(all + "test", 5, all.length());
        Edges.dueFault(all + "mark", 5, all.length());
        Edges.dueFault(all + "yields", 5, all.length());
    }

    /** A number between two texts: the least, the most, just beyond, how many digits. */
    private static void dueNumber(String ahead, String behind, int least, int most, ToLongFunction<KingsTest> told) {
        int at = ahead.length();
        for (int number : new int[] {least, least + 1, most - 1, most}) {
            dueRead(ahead + number + behind, told, number);
        }
        dueRead(ahead + "000".substring(Integer.toString(least).length() - 1) + least + behind, told, least);
        String filled = "0000" + most;
        dueRead(ahead + filled.substring(filled.length() - 4) + behind, told, most);
        for (int number = least - 1; number >= 0; number--) {
            Edges.dueFault(ahead + number + behind, 2, at);
            Edges.dueFault(ahead + "000" + number + behind, 2, at);
            Edges.dueFault(ahead + number, 2, at);
        }
        for (int number = most + 1; number <= 9999; number += 9999 - most - 1 > 0 ? 9999 - most - 1 : 1) {
            Edges.dueFault(ahead + number + behind, 2, at);
            Edges.dueFault(ahead + " \n" + number, 2, at + 2);
        }
        for (String long5 : new String[] {"00000", "0000" + least, "10000", "99999", "123456", "00001000"}) {
            Edges.dueFault(ahead + long5 + behind, 1, at + 4);
            Edges.dueFault(ahead + long5, 1, at + 4);
        }
        for (String none : new String[] {"-1", "+1", "x", ";", "/", ":", "(1)"}) {
            Edges.dueFault(ahead + none + behind, 1, at);
        }
        Edges.dueFault(ahead, 1, at);
        Edges.dueFault(ahead + most, 1, at + Integer.toString(most).length());
    }

    private static void dueRead(String text, ToLongFunction<KingsTest> told, long number) {
        Checks.due("I: " + text, told.applyAsLong(Checks.made(text)), number);
    }

    // "kind NAME love N wit N true N false N (0 .. 99; 0 .. 99; 0 .. 9; 0 .. 9 ..)"
    private static void ofKinds() {
        dueNumber("kind k love ", " wit 2 true 3 false 4;", 0, 99, x -> x.kind(0, 0));
        dueNumber("kind k love 1 wit ", " true 3 false 4;", 0, 99, x -> x.kind(0, 1));
        dueNumber("kind k love 1 wit 2 true ", " false 4;", 0, 9, x -> x.kind(0, 2));
        dueNumber("kind k love 1 wit 2 true 3 false ", ";", 0, 9, x -> x.kind(0, 3));
    }

    // "test NAME harm N (0 .. 99 ..)"
    private static void ofTests() {
        dueNumber("test t harm ", ";", 0, 99, x -> x.test(0, 0));
    }

    // "mark NAME true N false N (1 .. 9 each, of ten ..)"
    private static void ofMarks() {
        dueNumber("mark m true ", " false 4;", 1, 9, x -> x.mark(0, 0));
        dueNumber("mark m true 3 false ", ";", 1, 9, x -> x.mark(0, 1));
    }

    // "first N (1 .. 99 of a hundred)"
    private static void ofFirst() {
        dueNumber("first ", ";", 1, 99, x -> x.has(3));
    }

    // "price N (0 .. 9999 a harm, in millionths)": told by a test of harm 1 that tells nothing
    private static void ofPrice() {
        String court = "kind k love 1 wit 1 true 1 false 1;test t harm 1;yields all;";
        dueNumber(court + "price ", ";", 0, 9999, x -> 500000 - x.merit(1));
    }

    // "N (1 to 4 digits)" as a PART: 0 .. 9999, none that can't be
    private static void ofParts() {
        for (String number : new String[] {"0", "9", "10", "99", "100", "999", "1000", "9999", "0000", "0099", "9"}) {
            Edges.dueTaken("yields 0=" + number + ";", 1);
            dueYields(number + "=" + Integer.parseInt(number), 1);
            dueYields(number + "=" + Integer.parseInt(number) + "+1", 0);
        }
        for (String number : new String[] {"00000", "10000", "12345", "99999999"}) {
            Edges.dueFault("yields " + number + "=0;", 1, 11);
            Edges.dueFault("yields 0=" + number, 1, 13);
            Edges.dueFault("yields min(1," + number + ")=0;", 1, 17);
            Edges.dueFault("yields ((" + number + "))=0;", 1, 13);
        }
    }

    private static void dueYields(String test, int want) {
        KingsTest x = Checks.made("kind k love 1 wit 1 true 1 false 1;test t harm 1;yields " + test + ";");
        Checks.due("I: " + test, x.yields(0, 0, 1), want);
    }

    // "the last one of each counts (50, 1000 without)"
    private static void lastOneCounts() {
        String court = "kind k love 1 wit 1 true 1 false 1;test t harm 1;yields all;";
        KingsTest x = Checks.made("first 1;price 9999;first 99;price 0;first 50;" + court + "price 3;first 70;");
        Checks.due("I: the last first counts", x.has(3), 70);
        Checks.due("I: the last price counts", x.merit(1), 700000 - 3);
        x = Checks.made(court + "first 99;first 1;price 7;price 9999;");
        Checks.due("I: the last first counts", x.has(3), 1);
        Checks.due("I: the last price counts", x.merit(1), 990000 - 9999);
        Edges.dueFault("first 5;first 0;", 2, 14);
        Edges.dueFault("price 5;first 5;first 100;", 2, 22);
    }

    private static void withoutAny() {
        String court = "kind k love 1 wit 1 true 1 false 1;test t harm 1;yields all;";
        KingsTest x = Checks.made(court);
        Checks.due("I: first 50 without", x.has(3), 50);
        Checks.due("I: price 1000 without", x.merit(1), 500000 - 1000);
        x = Checks.made("first 99;price 9999;" + court);
        Checks.court(x, court);
        Checks.due("I: first 50 without, behind another court", x.has(3), 50);
        Checks.due("I: price 1000 without, behind another court", x.merit(1), 500000 - 1000);
        Checks.court(x, "first 7;" + court);
        Checks.due("I: price 1000 without, beside first", x.merit(1), 930000 - 1000);
        Checks.court(x, "price 7;" + court);
        Checks.due("I: first 50 without, beside price", x.has(3), 50);
    }

    // "1600" bytes are a court as fewer are
    private static void wholeTape() {
        String full = "price 7;" + " ".repeat(1584) + "first 3;";
        Checks.due("4: 1600 bytes", Edges.dueTaken(full, 2).has(3), 3);
        Edges.dueFault(full.substring(0, 1599) + "?", 1, 1599);
        Checks.due("4: blanks to the last byte", Edges.dueTaken("price 7;" + " ".repeat(1592), 1).has(3), 50);
        String steps = "yields 1" + "+1".repeat(790) + "=791;";
        Checks.due("4: as many steps", Edges.dueTaken(steps, 1).has(0), 0);
        String rule = "kind k love 1 wit 1 true 1 false 1;test t harm 1;yields 1" + "+1".repeat(700) + "=";
        Checks.due("4: all of them count", Checks.made(rule + "701;").yields(0, 0, 0), 1);
        Checks.due("4: all of them count", Checks.made(rule + "700;").yields(0, 0, 0), 0);
        String facts = "kind k love 1 wit 1 true 1 false 1;test t harm 1;yields not all" + " or not all".repeat(130);
        Checks.due("4: all of them count", Checks.made(facts + ";").yields(0, 0, 0), 0);
        Checks.due("4: all of them count", Checks.made(facts + " or all;").yields(0, 0, 0), 1);
    }

    // "its FAULT (what 0; 0 without, and ahead of any), its place (1; NONE without). NONE for another what"
    private static void faultAheadOfAny() {
        KingsTest x = new KingsTest();
        int[] others = {2, 3, -1, -2, Integer.MIN_VALUE, Integer.MAX_VALUE};
        Checks.due("5: ahead of any", x.fault(0), 0);
        Checks.due("5: ahead of any", x.fault(1), -1);
        for (int what : others) {
            Edges.dueNone("5: fault(" + what + ")", Edges::rich, y -> y.fault(what), -1);
        }
        Checks.court(x, "first 100;");
        for (int what : others) {
            Checks.due("5: fault(" + what + ") with a FAULT", x.fault(what), -1);
        }
        Checks.due("5: fault(0)", x.fault(0), 2);
        Checks.due("5: fault(1)", x.fault(1), 6);
    }

    // "Of the latest court() or ask()"
    private static void latestFault() {
        KingsTest x = Checks.made(Edges.TWO);
        dueFaults(x, "behind a court", 0, -1);
        Checks.court(x, "first 0;");
        dueFaults(x, "behind a court", 2, 6);
        Checks.tell(x, 9);
        Checks.on(x, 9);
        x.judge(7);
        x.end(-1);
        dueFaults(x, "no other call changes it", 2, 6);
        Checks.ask(x, "total ");
        dueFaults(x, "behind a question", 1, 6);
        Checks.ask(x, "total 1");
        dueFaults(x, "behind a question", 0, -1);
        Checks.ask(x, "total (((((((");
        dueFaults(x, "behind a question", 4, 12);
        Checks.tell(x, 0, 0, 0, 0);
        x.judge(0);
        x.image();
        dueFaults(x, "no other call changes it", 4, 12);
        Checks.court(x, "");
        dueFaults(x, "behind a court", 0, -1);
    }

    private static void dueFaults(KingsTest x, String when, int fault, int place) {
        Checks.due("5: " + when + ", fault(0)", x.fault(0), fault);
        Checks.due("5: " + when + ", fault(1)", x.fault(1), place);
    }

    // "FAULTS, the first along the text"
    private static void firstAlongTheText() {
        Edges.dueFault("first 0;first 100;", 2, 6);
        Edges.dueFault("first 7;? first 100;", 1, 8);
        Edges.dueFault("first 100 ?", 2, 6);
        Edges.dueFault("first 100?", 2, 6);
        Edges.dueFault("first 100x", 2, 6);
        Edges.dueFault("test a harm 1;test a harm 100;", 3, 19);
        Edges.dueFault("test a harm 100;test a harm 1;", 2, 12);
        Edges.dueFault("test a harm 1;test a ?", 3, 19);
        Edges.dueFault("test a harm 1;test a", 3, 19);
        Edges.dueFault("test a harm 1;test aa;test a", 1, 21);
        Edges.dueFault("yields ((((((( ?", 4, 13);
        Edges.dueFault("yields (((((( ? (", 1, 14);
        Edges.dueFault("yields 12345 + (((((((", 1, 11);
        Edges.dueFault("yields all;test a harm 1;yields all;test a harm 1;", 5, 25);
        Edges.dueFault("yields all;test a harm 1;test a harm 1;yields all;", 3, 30);
    }

    // "Without one all is as at first, nothing is KEPT, ANSWERED or can be undone"
    private static void asAtFirst() {
        KingsTest x = Edges.rich();
        Checks.due("4: KEPT ahead of it", x.has(8), 3);
        Checks.due("4: ANSWERED ahead of it", x.has(9), 1);
        Checks.due("4: ACTS ahead of it", x.has(10), 5);
        Checks.due("4: court", Checks.court(x, Edges.TWO), 7);
        for (int what = 4; what <= 10; what++) {
            Checks.due("4: has(" + what + ")", x.has(what), 0);
        }
        for (int test = 0; test < 2; test++) {
            Checks.due("4: HEARD in no case", x.test(test, 1), 0);
            Checks.due("4: not in this one", x.test(test, 2), 0);
        }
        Checks.due("4: not looked for", x.mark(0, 2) + x.mark(0, 3), 0);
        Checks.due("4: nothing is KEPT", x.kept(0, 0), -1);
        Checks.due("4: all tests it can be", x.trick(), 3);
        Checks.due("4: nothing can be undone", x.undo(), false);
        Checks.due("4: odds as at first", x.odds(0), 600000);
        x = Edges.rich();
        Checks.due("4: no STATEMENT", Checks.court(x, ""), 0);
        int[] empty = {0, 0, 0, 50, 0, 0, 0, 0, 0, 0, 0};
        for (int what = 0; what < empty.length; what++) {
            Checks.due("4: of none, has(" + what + ")", x.has(what), empty[what]);
        }
    }

    // nothing of any court before is left, however many there were
    private static void courtsInTurn() {
        String one = "kind k love 60 wit 7 true 1 false 1;test t harm 13;";
        String[] courts = {one + "first 70;price 3;yields heard=0;", one, one + "yields heard=1;", one + "first 99;yields all;",
            one + "price 7;yields not all;", one, one, one + "first 1;price 9999;"};
        int[] firsts = {70, 50, 50, 99, 50, 50, 50, 1};
        int[] prices = {3, 1000, 1000, 1000, 7, 1000, 1000, 9999};
        int[][] yielding = {{1, 1}, {0, 1}, {0, 0}, {1, 1}, {0, 0}, {0, 1}, {0, 1}, {0, 1}};
        for (int step = 1; step < 8; step += 2) {
            KingsTest x = new KingsTest();
            for (int i = 0; i < 16; i++) {
                int which = i * step % 8;
                Checks.due("4: court " + which, Checks.court(x, courts[which]) > 0, true);
                Checks.due("4: first of court " + which, x.has(3), firsts[which]);
                for (int truth = 0; truth < 2; truth++) {
                    Checks.due("11: yields of court " + which, x.yields(0, 0, truth), yielding[which][truth]);
                }
                int right = yielding[which][0] != yielding[which][1] ? 100 : Math.max(firsts[which], 100 - firsts[which]);
                Checks.due("17: price of court " + which, x.merit(1), right * 10000 - 13 * prices[which]);
                Checks.due("21: ahead of court " + which, x.ahead(0, 0), x.best());
                Checks.due("22: known of court " + which, x.known(0, 0), right * 10000);
                x.chance(1);
            }
        }
    }

    // "the seed stays"
    private static void seedStays() {
        KingsTest x = Checks.made(Edges.TWO);
        KingsTest twin = Checks.made(Edges.TWO);
        x.chance(3);
        twin.chance(3);
        Checks.court(x, Edges.TWO);
        Checks.due("4: the seed stays", x.chance(20), twin.chance(20));
        for (int k = 0; k < 20; k++) {
            Checks.due("4: the seed stays, kept(" + k + ", 0)", x.kept(k, 0), twin.kept(k + 3, 0));
            Checks.due("4: the seed stays, kept(" + k + ", 3)", x.kept(k, 3), twin.kept(k + 3, 3));
        }
    }
}
