/** Promises 1 to 8, 10 and 11: the tape, the text of A COURT and its FAULTS, what is told of it. */
public final class CourtTest {
    private static final String KIND = "kind k love 1 wit 2 true 3 false 4;";

    public static void main(String[] args) {
        newObject();
        feeding();
        ending();
        statements();
        faultsStay();
        wordsThatDoNotFit();
        wordsSideBySide();
        numbers();
        names();
        tooMany();
        open();
        testsOfYields();
        letters();
        rows();
        sums();
        facts();
        Checks.finish();
    }

    private static void due(String call, long got, long want) {
        Checks.due(call, got, want);
    }

    private static void newObject() {
        KingsTest x = new KingsTest();
        due("1: has(0)", x.has(0), 0);
        due("1: has(1)", x.has(1), 0);
        due("1: has(2)", x.has(2), 0);
        due("1: has(3)", x.has(3), 50);
        for (int what = 4; what <= 10; what++) {
            due("1: has(" + what + ")", x.has(what), 0);
        }
        due("6: has(11)", x.has(11), -1);
        due("6: has(-1)", x.has(-1), -1);
        due("5: fault(0)", x.fault(0), 0);
        due("5: fault(1)", x.fault(1), -1);
        due("5: fault(2)", x.fault(2), -1);
        due("5: fault(-1)", x.fault(-1), -1);
        due("1: the tape is empty", x.court(), 0);
    }

    private static void feeding() {
        KingsTest x = new KingsTest();
        for (int i = 1; i <= 80; i++) {
            due("2: feed " + i, x.feed(0, 0, 0, 0, 0), 20 * i);
        }
        due("2: feed beyond 1600", x.feed(0, 0, 0, 0, 0), -1);
        due("2: refused", x.status(0), 1);
        Checks.due("3: end(1581)", x.end(1581), true);
        due("2: feed beyond 1600 by one", x.feed(0, 0, 0, 0, 0), -1);
        Checks.due("3: end(1580)", x.end(1580), true);
        due("2: feed to 1600", x.feed(0, 0, 0, 0, 0), 1600);
        due("2: refused", x.status(0), 2);
        x.end(0);
        // "first 7;" and then bytes that stand for the order in each number
        due("2: feed", x.feed(0x66697273, 0x7420373B, 0x70726963, 0x65203132, 0x33343B20), 20);
        due("2: court", x.court(), 2);
        due("2: first", x.has(3), 7);
        due("2: bytes above 127 are none of a text", highByte(), 0);
    }

    private static int highByte() {
        KingsTest x = new KingsTest();
        x.feed(0xE1E1E1E1, 0, 0, 0, 0);
        due("2: court of a high byte", x.court(), -1);
        return x.fault(1);
    }

    private static void ending() {
        KingsTest x = new KingsTest();
        Checks.due("3: end(0)", x.end(0), true);
        Checks.due("3: end(1)", x.end(1), false);
        x.feed(0, 0, 0, 0, 0);
        Checks.due("3: end(21)", x.end(21), false);
        Checks.due("3: end(-1)", x.end(-1), false);
        Checks.due("3: end(least)", x.end(Integer.MIN_VALUE), false);
        Checks.due("3: end(20)", x.end(20), true);
        Checks.due("3: end(7)", x.end(7), true);
        Checks.due("3: end(8)", x.end(8), false);
        due("3: feed behind seven", x.feed(0, 0, 0, 0, 0), 27);
        due("3: refused", x.status(0), 5);
    }

    private static void statements() {
        KingsTest x = new KingsTest();
        due("4: no STATEMENT", Checks.court(x, ""), 0);
        due("4: blanks", Checks.court(x, " \n \n"), 0);
        due("4: blanks all over", Checks.court(x, "\n first\n\n7 ;price 5 ; "), 2);
        due("4: first", x.has(3), 7);
        due("4: the last one of each counts", Checks.court(x, "first 7;price 1;first 99;price 2;"), 4);
        due("4: first", x.has(3), 99);
        due("4: without", Checks.court(x, KIND), 1);
        due("4: first without", x.has(3), 50);
        due("4: KINDS", x.has(0), 1);
        due("4: a NAME of six letters", Checks.court(x, "test abcdef harm 0;mark often true 1 false 9;"), 2);
        due("4: KINDS", x.has(0), 0);
        due("4: tests", x.has(1), 1);
        due("4: MARKS", x.has(2), 1);
        due("4: refused", x.status(1), 0);
        due("4: the tape goes", x.feed(0, 0, 0, 0, 0), 20);
        due("4: a new COURT begins anew", begunAnew(), 0);
        otherCourts();
    }

    private static void otherCourts() {
        String both = "kind k love 9 wit 0 true 1 false 1;test t harm 1;";
        KingsTest x = Checks.made(both + "price 9999;first 70;yields truth=1 and heard<3;");
        due("11: by the first court", x.yields(0, 0, 1), 1);
        due("17: by the first court", x.merit(1), 990001);
        Checks.court(x, both + "yields truth=0;");
        due("11: by the second court", x.yields(0, 0, 1), 0);
        due("17: price 1000 without", x.merit(1), 999000);
        Checks.dueAsked(x, "total number+harm", 1);
        Checks.dueFault(x, both + "yields number=0;", 1, both.length() + 7);
        Checks.court(x, both + "yields love>5;");
        due("11: by the third court", x.yields(0, 0, 0), 1);
        Checks.court(x, both);
        due("11: without yields", x.yields(0, 0, 0), 0);
        due("4: first 50 without", x.has(3), 50);
    }

    private static int begunAnew() {
        KingsTest x = Checks.made(KIND + "test t harm 9;mark m true 8 false 2;");
        x.look(0, 0, 1);
        x.hear(0, 1, 0);
        x.judge(0);
        x.hear(0, 1, 0);
        x.look(0, 1, 0);
        Checks.tell(x, 0, 0, 1, 0);
        due("4: ACTS", x.has(10), 5);
        due("4: the same again", Checks.court(x, KIND + "test t harm 9;mark m true 8 false 2;"), 3);
        due("4: test(0, 1)", x.test(0, 1), 0);
        int left = 0;
        for (int what = 4; what <= 10; what++) {
            left += x.has(what);
        }
        return left;
    }

    private static void faultsStay() {
        KingsTest x = Checks.made(KIND + "test t harm 9;first 60;");
        x.hear(0, 1, 0);
        x.judge(0);
        Checks.tell(x, 0, 0, 1, 0);
        Checks.dueFault(x, "first 70;kind", 1, 13);
        due("4: refused", x.status(1), 1);
        due("4: the tape goes", x.feed(0, 0, 0, 0, 0), 20);
        due("4: first stays", x.has(3), 60);
        due("4: cases stay", x.has(4), 1);
        due("4: harm stays", x.has(5), 9);
        due("4: KEPT stays", x.has(8), 1);
        due("4: ANSWERED stays", x.has(9), 1);
        due("4: ACTS stay", x.has(10), 2);
        due("4: KIND stays", x.kind(0, 3), 4);
        due("4: two faults", Checks.court(x, "x"), -1);
        due("4: refused", x.status(1), 2);
        due("5: without", Checks.court(x, ""), 0);
        due("5: fault(0)", x.fault(0), 0);
        due("5: fault(1)", x.fault(1), -1);
    }

    private static void wordsThatDoNotFit() {
        KingsTest x = new KingsTest();
        Checks.dueFault(x, ";", 1, 0);
        Checks.dueFault(x, "  x;", 1, 2);
        Checks.dueFault(x, "5", 1, 0);
        Checks.dueFault(x, "kin", 1, 0);
        Checks.dueFault(x, "kinds k", 1, 0);
        Checks.dueFault(x, "kindkindkind", 1, 0);
        Checks.dueFault(x, "Kind k", 1, 0);
        Checks.dueFault(x, "kind", 1, 4);
        Checks.dueFault(x, "kind ", 1, 5);
        Checks.dueFault(x, "kind 5", 1, 5);
        Checks.dueFault(x, "kind K", 1, 5);
        Checks.dueFault(x, "kind k", 1, 6);
        Checks.dueFault(x, "kind k lov 1", 1, 7);
        Checks.dueFault(x, "kind k wit 1", 1, 7);
        Checks.dueFault(x, "kind k love", 1, 11);
        Checks.dueFault(x, "kind k love wit", 1, 12);
        Checks.dueFault(x, "kind k love 1", 1, 13);
        Checks.dueFault(x, "kind k love 1 true", 1, 14);
        Checks.dueFault(x, "kind k love 1 wit 1 true 1 false 1", 1, 34);
        Checks.dueFault(x, "kind k love 1 wit 1 true 1 false 1 \n", 1, 36);
        Checks.dueFault(x, "kind k love 1 wit 1 true 1 false 1 kind", 1, 35);
        Checks.dueFault(x, "kind\tk", 1, 4);
        Checks.dueFault(x, "kind k, love", 1, 6);
        Checks.dueFault(x, "test t 5", 1, 7);
        Checks.dueFault(x, "mark m false 5", 1, 7);
        Checks.dueFault(x, "first -1", 1, 6);
        Checks.dueFault(x, "first x", 1, 6);
        Checks.dueFault(x, "price", 1, 5);
        Checks.dueFault(x, "first 5;;", 1, 8);
        Checks.dueFault(x, "last 5;", 1, 0);
        Checks.dueFault(x, "first\u00005;", 1, 5);
    }

    private static void wordsSideBySide() {
        KingsTest x = new KingsTest();
        Checks.dueFault(x, "first5;", 1, 5);
        Checks.dueFault(x, "kind k5;", 1, 6);
        Checks.dueFault(x, "kind k love 1wit 1", 1, 13);
        Checks.dueFault(x, "kind k love 1 wit2", 1, 17);
        Checks.dueFault(x, "yields love>5and all;", 1, 13);
        Checks.dueFault(x, "yields love5>5;", 1, 11);
        due("4: beside signs no blank is needed", Checks.court(x, "yields[love>5]or[not(wit)=5]and min(1,love)<2;"), 1);
    }

    private static void numbers() {
        KingsTest x = new KingsTest();
        Checks.dueFault(x, "kind k love 100 wit", 2, 12);
        Checks.dueFault(x, "kind k love 99 wit 100", 2, 19);
        Checks.dueFault(x, "kind k love 99 wit 99 true 10", 2, 27);
        Checks.dueFault(x, "kind k love 99 wit 99 true 9 false 10", 2, 35);
        Checks.dueFault(x, "test t harm 100", 2, 12);
        Checks.dueFault(x, "mark m true 0", 2, 12);
        Checks.dueFault(x, "mark m true 10", 2, 12);
        Checks.dueFault(x, "mark m true 1 false 0", 2, 20);
        Checks.dueFault(x, "mark m true 9 false 10", 2, 20);
        Checks.dueFault(x, "first 0;", 2, 6);
        Checks.dueFault(x, "first 100;", 2, 6);
        Checks.dueFault(x, "first 9999", 2, 6);
        Checks.dueFault(x, "first 10000", 1, 10);
        Checks.dueFault(x, "first 00001;", 1, 10);
        Checks.dueFault(x, "price 10000", 1, 10);
        Checks.dueFault(x, "yields love<12345;", 1, 16);
        Checks.dueFault(x, "kind k 12345", 1, 7);
        due("4: the most of all", Checks.court(x, "kind k love 99 wit 99 true 9 false 9;test t harm 99;mark m true 9 "
            + "false 9;first 99;price 9999;"), 5);
        due("4: the least of all", Checks.court(x, "kind k love 0 wit 0 true 0 false 0;test t harm 0;mark m true 1 "
            + "false 1;first 1;price 0;"), 5);
        due("4: zeros ahead", Checks.court(x, "first 0007;price 0000;"), 2);
        due("4: first", x.has(3), 7);
        due("4: the place counts bytes, the first fault stands", Checks.court(x, "\n\nfirst 0 x"), -1);
        due("5: fault(0)", x.fault(0), 2);
        due("5: fault(1)", x.fault(1), 8);
    }

    private static void names() {
        KingsTest x = new KingsTest();
        String[] own = {"kind", "love", "wit", "true", "false", "test", "harm", "mark", "yields", "first", "price", "heard",
            "truth", "number", "merit", "sure", "or", "and", "not", "all", "min", "max"};
        for (String word : own) {
            Checks.dueFault(x, "mark " + word + " true 1 false 1;", 1, 5);
        }
        due("4: words that are not OWN", Checks.court(x, "test last harm 1;test often harm 1;test total harm 1;"
            + "test most harm 1;test least harm 1;test minx harm 1;"), 6);
        Checks.dueFault(x, "kind abcdefg love", 1, 11);
        Checks.dueFault(x, "test abcdefgh", 1, 11);
        Checks.dueFault(x, KIND + "kind k", 3, 40);
        Checks.dueFault(x, KIND + "test k", 3, 40);
        Checks.dueFault(x, KIND + "mark k", 3, 40);
        Checks.dueFault(x, "test k harm 1;kind k", 3, 19);
        Checks.dueFault(x, "mark k true 1 false 1;test k harm", 3, 27);
        Checks.dueFault(x, "test abcdef harm 1;test abcdefg", 1, 30);
        due("4: NAMES alike at first", Checks.court(x, "test a harm 1;test aa harm 1;test ab harm 1;test b harm 1;"), 4);
    }

    private static String times(int n, String each) {
        StringBuilder all = new StringBuilder();
        for (int i = 0; i < n; i++) {
            all.append(each.replace('#', (char) ('a' + i)));
        }
        return all.toString();
    }

    private static void tooMany() {
        KingsTest x = new KingsTest();
        String kinds = times(6, "kind # love 1 wit 1 true 1 false 1;");
        String tests = times(6, "test t# harm 1;");
        String marks = times(5, "mark m# true 1 false 1;");
        due("4: 6 KINDS, 6 tests, 5 MARKS", Checks.court(x, kinds + tests + marks), 17);
        Checks.dueFault(x, kinds + " kind", 5, kinds.length() + 1);
        Checks.dueFault(x, tests + "test", 5, tests.length());
        Checks.dueFault(x, marks + "mark 1", 5, marks.length());
        Checks.dueFault(x, "yields all; yields all;", 5, 12);
        String sixty = times(60, "price 1;");
        due("4: 60 STATEMENTS", Checks.court(x, sixty + " \n"), 60);
        Checks.dueFault(x, sixty + "price 1;", 5, 480);
        Checks.dueFault(x, sixty + "  ?", 5, 482);
        Checks.dueFault(x, sixty + ";", 5, 480);
        Checks.dueFault(x, kinds + times(54, "price 1;") + "kind", 5, kinds.length() + 432);
    }

    private static void open() {
        KingsTest x = new KingsTest();
        due("4: six ( are open", Checks.court(x, "yields ((((((1))))))=1;"), 1);
        Checks.dueFault(x, "yields (((((((1", 4, 13);
        due("4: six [ are open", Checks.court(x, "yields [[[[[[all]]]]]];"), 1);
        Checks.dueFault(x, "yields [[[[[[[", 4, 13);
        due("4: six not are open", Checks.court(x, "yields not not not not not not all;"), 1);
        Checks.dueFault(x, "yields not not not not not not not all;", 4, 31);
        Checks.dueFault(x, "yields not not not [[[ (1)=1 ]]];", 4, 23);
        Checks.dueFault(x, "yields min(max(min(max(min(max(min(1", 4, 34);
        Checks.dueFault(x, "yields ((((((min 1", 1, 17);
        Checks.dueFault(x, "yields min(1,((((((1", 4, 18);
        due("4: six are open in the second SUM", Checks.court(x, "yields min(1,(((((1)))))+(((((1))))))=1;"), 1);
        due("4: not is open until its FACT ends", Checks.court(x, "yields not not not all and not not not not all and "
            + "[not not not (((1)))=1 - 1 and ((((1))))=1];"), -1);
        due("5: the fault of it", x.fault(0), 4);
        due("5: its place", x.fault(1), 66);
        due("4: many, but not at once", Checks.court(x, "yields (1)+(1)+(1)+(1)+(1)+(1)+(1)+(1)=8 and [all] and [all] and "
            + "not all or not all or not all or not all or not [[[[[all]]]]];"), 1);
    }

    private static void testsOfYields() {
        KingsTest x = new KingsTest();
        Checks.dueFault(x, "yields", 1, 6);
        Checks.dueFault(x, "yields;", 1, 6);
        Checks.dueFault(x, "yields 5", 1, 8);
        Checks.dueFault(x, "yields 5;", 1, 8);
        Checks.dueFault(x, "yields 5=", 1, 9);
        Checks.dueFault(x, "yields 5<=5;", 1, 9);
        Checks.dueFault(x, "yields 1<2<3;", 1, 10);
        Checks.dueFault(x, "yields -5=1;", 1, 7);
        Checks.dueFault(x, "yields (love>1);", 1, 12);
        Checks.dueFault(x, "yields [love>1;", 1, 14);
        Checks.dueFault(x, "yields all and;", 1, 14);
        Checks.dueFault(x, "yields all all;", 1, 11);
        Checks.dueFault(x, "yields [1]=1;", 1, 9);
        Checks.dueFault(x, "yields 1+all=1;", 1, 9);
        Checks.dueFault(x, "yields 1+not 1=1;", 1, 9);
        Checks.dueFault(x, "yields min 1", 1, 11);
        Checks.dueFault(x, "yields min=1;", 1, 10);
        Checks.dueFault(x, "yields min(1)=1;", 1, 12);
        Checks.dueFault(x, "yields min(1,2,3)=1;", 1, 14);
        for (String word : new String[] {"number", "merit", "sure", "yields", "true", "k"}) {
            Checks.dueFault(x, "yields " + word + "=1;", 1, 7);
        }
    }

    private static void letters() {
        KingsTest x = Checks.made("kind azbycx love 0 wit 0 true 0 false 0;test z harm 0;test aa harm 0;mark m true 1 false 1;");
        int[] first = {1, 26, 2, 25, 3, 24};
        for (int k = 0; k < 6; k++) {
            due("7: letter(0, 0, " + k + ")", x.letter(0, 0, k), first[k]);
        }
        due("7: letter(1, 0, 0)", x.letter(1, 0, 0), 26);
        due("7: behind it", x.letter(1, 0, 1), 0);
        due("7: behind it", x.letter(1, 0, 5), 0);
        due("7: letter(1, 1, 1)", x.letter(1, 1, 1), 1);
        due("7: letter(2, 0, 0)", x.letter(2, 0, 0), 13);
        due("7: letter(0, 0, 6)", x.letter(0, 0, 6), -1);
        due("7: letter(0, 0, -1)", x.letter(0, 0, -1), -1);
        due("7: letter(0, 1, 0)", x.letter(0, 1, 0), -1);
        due("7: letter(1, 2, 0)", x.letter(1, 2, 0), -1);
        due("7: letter(2, -1, 0)", x.letter(2, -1, 0), -1);
        due("7: letter(3, 0, 0)", x.letter(3, 0, 0), -1);
        due("7: letter(-1, 0, 0)", x.letter(-1, 0, 0), -1);
    }

    private static void rows() {
        KingsTest x = Checks.made("kind a love 11 wit 22 true 3 false 4;kind b love 55 wit 66 true 7 false 8;mark m true 2 false 9;");
        int[] b = {55, 66, 7, 8};
        for (int what = 0; what < 4; what++) {
            due("8: kind(1, " + what + ")", x.kind(1, what), b[what]);
        }
        due("8: kind(0, 0)", x.kind(0, 0), 11);
        due("8: kind(0, 4)", x.kind(0, 4), -1);
        due("8: kind(0, -1)", x.kind(0, -1), -1);
        due("8: kind(2, 0)", x.kind(2, 0), -1);
        due("8: kind(-1, 0)", x.kind(-1, 0), -1);
        due("10: mark(0, 0)", x.mark(0, 0), 2);
        due("10: mark(0, 1)", x.mark(0, 1), 9);
        due("10: mark(0, 4)", x.mark(0, 4), -1);
        due("10: mark(0, -1)", x.mark(0, -1), -1);
        due("10: mark(1, 0)", x.mark(1, 0), -1);
        due("10: mark(-1, 0)", x.mark(-1, 0), -1);
    }

    private static void dueYields(String test, int want) {
        KingsTest x = Checks.made("kind k love 60 wit 7 true 1 false 1;test t harm 13;yields " + test + ";");
        due("11: " + test, x.yields(0, 0, 1), want);
    }

    private static void sums() {
        dueYields("love=60 and wit=7 and harm=13 and heard=0 and truth=1", 1);
        dueYields("2+3*4=14", 1);
        dueYields("(2+3)*4=20", 1);
        dueYields("20-5-3=12", 1);
        dueYields("100/10/5=2", 1);
        dueYields("100/10*5=50", 1);
        dueYields("7/2=3", 1);
        dueYields("(0-7)/2=0-4", 1);
        dueYields("7/(0-2)=0-4", 1);
        dueYields("(0-7)/(0-2)=3", 1);
        dueYields("5/0=0", 1);
        dueYields("(0-5)/(3-3)=0", 1);
        dueYields("1000*1000=1000*1000+1", 1);
        dueYields("1000*999<1000*1000", 1);
        dueYields("9999*9999/1000=1000", 1);
        dueYields("9999*9999*9999=1000*1000", 1);
        dueYields("9999*9999+5-5=1000*1000-5", 1);
        dueYields("0-9999*9999-1=0-9999*9999", 1);
        dueYields("(0-9999)*9999/1000=0-1000", 1);
        dueYields("0-9999*9999-1+1=1-1000*1000", 1);
        dueYields("min(3,2)=2 and min(2,3)=2 and max(3,2)=3 and max(2,3)=3", 1);
        dueYields("max(min(1,2),min(4,3))=3", 1);
        dueYields("0012=12", 1);
    }

    private static void facts() {
        dueYields("all", 1);
        dueYields("not all", 0);
        dueYields("not not all", 1);
        dueYields("1<2", 1);
        dueYields("2<2", 0);
        dueYields("2>2", 0);
        dueYields("3>2", 1);
        dueYields("2=3", 0);
        dueYields("all or all and not all", 1);
        dueYields("[all or all] and not all", 0);
        dueYields("not all and not all or all", 1);
        dueYields("not all or not all", 0);
        dueYields("not [all and not all]", 1);
        dueYields("not all and all", 0);
        dueYields("not 1=1 or 1=2", 0);
        KingsTest x = Checks.made("kind a love 9 wit 0 true 1 false 1;kind b love 1 wit 0 true 1 false 1;test t harm 5;test u harm 0;");
        due("11: without yields one who is true", x.yields(0, 0, 1), 1);
        due("11: without yields one who is false", x.yields(1, 1, 0), 0);
        x = Checks.made("kind a love 9 wit 0 true 1 false 1;kind b love 1 wit 0 true 1 false 1;test t harm 5;test u harm 0;"
            + "yields love>harm and truth=0 or love<2 and truth=1 and heard=0;");
        int[] dues = {1, 0, 1, 0, 0, 1, 1, 1};
        for (int i = 0; i < 8; i++) {
            int truth = i & 1;
            int test = i >> 1 & 1;
            int kind = i >> 2;
            due("11: yields(" + kind + ", " + test + ", " + truth + ")", x.yields(kind, test, truth), dues[i]);
        }
        due("11: yields(2, 0, 0)", x.yields(2, 0, 0), -1);
        due("11: yields(-1, 0, 0)", x.yields(-1, 0, 0), -1);
        due("11: yields(0, 2, 0)", x.yields(0, 2, 0), -1);
        due("11: yields(0, -1, 0)", x.yields(0, -1, 0), -1);
        due("11: yields(0, 0, 2)", x.yields(0, 0, 2), -1);
        due("11: yields(0, 0, -1)", x.yields(0, 0, -1), -1);
    }
}
