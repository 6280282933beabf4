/** Promises 13 to 24: odds, merit, sets of tests, cases to come, which test it was. */
public final class OddsTest {
    /** true: 60 * {2, 1} * {1, 3} is 120 360 60 180; false: 40 * {1, 3} * {2, 1} is 80 40 240 120. */
    static final String TWO = "kind a love 9 wit 0 true 2 false 1;kind b love 1 wit 0 true 1 false 3;test t harm 5;"
        + "test u harm 20;mark m true 8 false 3;first 60;yields truth=1 and love>harm or truth=0 and harm>10;";
    /** A test that nobody yields at any more from the third case on. */
    private static final String WORN = "kind a love 9 wit 0 true 1 false 1;test t harm 5;mark m true 8 false 2;"
        + "yields truth=1 and heard<2;";
    private static final String NOBODY = "kind a love 9 wit 0 true 0 false 1;test t harm 5;mark m true 8 false 2;";

    public static void main(String[] args) {
        weights();
        marksAndAnswers();
        bigWeights();
        merits();
        ties();
        parting();
        suring();
        coming();
        worn();
        knowing();
        noWorld();
        tricks();
        tellingWrong();
        Checks.finish();
    }

    private static void due(String call, long got, long want) {
        Checks.due(call, got, want);
    }

    private static void weights() {
        KingsTest x = Checks.made(TWO);
        long[] all = {120, 360, 60, 180, 80, 40, 240, 120};
        for (int i = 0; i < 8; i++) {
            due("13: weight " + i, x.weight(i >> 2, i >> 1 & 1, i & 1), all[i]);
        }
        due("13: weight(2, 0, 0)", x.weight(2, 0, 0), KingsTest.NOTHING);
        due("13: weight(-1, 0, 0)", x.weight(-1, 0, 0), KingsTest.NOTHING);
        due("13: weight(0, 2, 0)", x.weight(0, 2, 0), KingsTest.NOTHING);
        due("13: weight(0, -1, 0)", x.weight(0, -1, 0), KingsTest.NOTHING);
        due("13: weight(0, 0, 2)", x.weight(0, 0, 2), KingsTest.NOTHING);
        due("13: weight(0, 0, -1)", x.weight(0, 0, -1), KingsTest.NOTHING);
        due("14: odds(0)", x.odds(0), 600000);
        due("14: odds(1)", x.odds(1), 400000);
        due("14: odds(2)", x.odds(2), -1);
        due("14: odds(-1)", x.odds(-1), -1);
        due("15: kinds(0, 0)", x.kinds(0, 0), 500000);
        due("15: kinds(0, 1)", x.kinds(0, 1), 500000);
        due("15: kinds(1, 0)", x.kinds(1, 0), 416666);
        due("15: kinds(1, 1)", x.kinds(1, 1), 583333);
        due("15: kinds(2, 0)", x.kinds(2, 0), -1);
        due("15: kinds(-1, 0)", x.kinds(-1, 0), -1);
        due("15: kinds(0, 2)", x.kinds(0, 2), -1);
        due("15: kinds(0, -1)", x.kinds(0, -1), -1);
        due("16: would(0, 0)", x.would(0, 0), 400000);
        due("16: would(1, 0)", x.would(1, 0), 266666);
        due("16: would(0, 1)", x.would(0, 1), 400000);
        due("16: would(1, 1)", x.would(1, 1), 600000);
        due("16: would(2, 0)", x.would(2, 0), -1);
        due("16: would(0, 2)", x.would(0, 2), -1);
        due("16: would(0, -1)", x.would(0, -1), -1);
    }

    private static void marksAndAnswers() {
        KingsTest x = Checks.made(TWO);
        x.look(0, 0, 1);
        due("13: seen at 0", x.weight(0, 0, 0), 960);
        due("13: seen at 0, 1 is true", x.weight(1, 0, 0), 240);
        due("14: seen at 0", x.odds(0), 800000);
        x.look(0, 1, 0);
        due("13: not seen at 1", x.weight(0, 0, 0), 6720);
        due("13: not seen at 1, who is true", x.weight(1, 0, 0), 480);
        due("14: not seen at 1", x.odds(0), 933333);
        due("14: the other one", x.odds(1), 66666);
        x.hear(0, 0, 0);
        due("13: a true one of KIND 0 would have yielded", x.weight(0, 0, 0), 0);
        due("13: a true one of KIND 1 would not", x.weight(0, 1, 0), 3360);
        due("13: 1 is true, of KIND 0", x.weight(1, 0, 0), 0);
        due("13: 1 is true, of KIND 1", x.weight(1, 0, 1), 240);
        due("15: kinds(0, 0) of 60 * 4 * 56 and 40 * 4 * 6", x.kinds(0, 0), 16666);
        due("16: would(0, 0) as it was heard", x.would(0, 0), 0);
        due("16: would(0, 1) of those that are left", x.would(0, 1), 66666);
        x = Checks.made(TWO);
        x.hear(0, 0, 1);
        due("13: just 1 has yielded", x.weight(0, 1, 0), 0);
        due("13: just 1 has yielded", x.weight(1, 1, 0), 240);
        due("13: a true one of KIND 1 has not", x.weight(1, 1, 1), 0);
        due("14: just 1 has yielded", x.odds(1), 1000000);
    }

    private static void bigWeights() {
        StringBuilder text = new StringBuilder("first 99;");
        for (int i = 0; i < 6; i++) {
            text.append("kind k").append((char) ('a' + i)).append(" love 0 wit 0 true 9 false 9;");
        }
        for (int i = 0; i < 5; i++) {
            text.append("mark m").append((char) ('a' + i)).append(" true 9 false 9;");
        }
        KingsTest x = Checks.made(text.toString());
        for (int i = 0; i < 10; i++) {
            x.look(i / 2, i % 2, 1);
        }
        due("13: 99 * 81 * 9 to the 10", x.weight(0, 5, 5), 99L * 81 * 3486784401L);
        due("14: odds(0)", x.odds(0), 990000);
        due("14: odds(1)", x.odds(1), 10000);
        due("15: kinds(1, 3)", x.kinds(1, 3), 166666);
        due("17: merit(0)", x.merit(0), 990000);
        due("21: ahead(0, 1)", x.ahead(0, 1), 990000);
    }

    private static void merits() {
        KingsTest x = Checks.made(TWO);
        due("17: merit(0)", x.merit(0), 600000);
        due("17: merit(1), 480 and 320 and 240 of 1200", x.merit(1), 861666);
        due("17: merit(2)", x.merit(2), 980000);
        due("17: merit(3)", x.merit(3), 975000);
        due("17: merit(4)", x.merit(4), KingsTest.NOTHING);
        due("17: merit(-1)", x.merit(-1), KingsTest.NOTHING);
        due("17: merit(least)", x.merit(Integer.MIN_VALUE), KingsTest.NOTHING);
        due("18: best()", x.best(), 2);
        x.look(0, 0, 0);
        // 60 * 2 to 40 * 7: 1440 to 3360 of 4800
        due("17: merit(0), 1 is more likely now", x.merit(0), 700000);
        x.hear(0, 0, 0);
        due("17: merit(1) is heard", x.merit(1), KingsTest.NOTHING);
        due("17: merit(3) has one that is heard", x.merit(3), KingsTest.NOTHING);
        due("17: merit(2)", x.merit(2), 980000);
        due("18: best()", x.best(), 2);
        x.hear(1, 0, 1);
        due("18: best() of none that are left", x.best(), 0);
        due("17: merit(0)", x.merit(0), 1000000);
        x = Checks.made(TWO + "price 9999;");
        due("17: merit(1) by price", x.merit(1), 866666 - 5 * 9999);
        due("17: merit(3) by price", x.merit(3), 1000000 - 25 * 9999);
        due("18: best() by price", x.best(), 1);
        x = Checks.made("kind a love 0 wit 0 true 1 false 1;test t harm 99;test u harm 99;price 9999;first 99;");
        due("17: merit below 0", x.merit(3), 1000000 - 198L * 9999);
        due("18: none is best", x.best(), 0);
    }

    private static void ties() {
        String kinds = "kind a love 9 wit 0 true 1 false 1;kind b love 1 wit 0 true 1 false 1;";
        String yields = "yields truth=1 and [harm=1 and love>5 or harm=2 and love<5 or harm>2];";
        KingsTest x = Checks.made(kinds + "test t harm 1;test u harm 2;test v harm 3;price 0;" + yields);
        due("18: the fewest of like ones", x.best(), 4);
        due("20: the fewest of like harm", x.sure(0), 4);
        due("20: harm", x.sure(1), 3);
        x = Checks.made(kinds + "test t harm 1;test u harm 2;test v harm 4;price 0;" + yields);
        due("18: the fewest of like ones", x.best(), 4);
        due("20: the least harm", x.sure(0), 3);
        due("20: harm", x.sure(1), 3);
        x = Checks.made(kinds + "test t harm 1;test u harm 2;test v harm 4;price 1;" + yields);
        due("18: the greatest MERIT", x.best(), 3);
        x = Checks.made(kinds + "test t harm 1;test v harm 5;test w harm 5;price 1;" + yields);
        due("18: the least bits", x.best(), 2);
        due("20: the least bits", x.sure(0), 2);
        x = Checks.made(kinds + "test w harm 5;test v harm 5;test t harm 5;price 0;" + yields);
        due("18: the least bits", x.best(), 1);
        // 1000000 less 100000 for all, 900000 without
        x = Checks.made("kind a love 9 wit 0 true 1 false 1;test t harm 50;price 2000;first 90;");
        due("17: merit(0)", x.merit(0), 900000);
        due("17: merit(1)", x.merit(1), 900000);
        due("18: none, of like ones", x.best(), 0);
        // 75 * {3, 1} * {1, 2} and 25 * {1, 2} * {3, 1}; behind t 675, 225 and 75 are judged right
        x = Checks.made("kind a love 9 wit 0 true 3 false 1;kind b love 1 wit 0 true 1 false 2;test t harm 9;price 9259;"
            + "first 75;yields truth=1 and love<5;");
        due("17: merit(0)", x.merit(0), 750000);
        due("17: merit(1), 900 of 1200 and 75 more", x.merit(1), 812500 - 83331);
    }

    private static void parting() {
        KingsTest x = Checks.made(TWO);
        due("19: parts(1, 0)", x.parts(1, 0), 1);
        due("19: parts(1, 1)", x.parts(1, 1), -1);
        due("19: parts(1, 2)", x.parts(1, 2), -1);
        due("19: parts(0, 0)", x.parts(0, 0), 0);
        due("19: parts(0, 1), a true one of KIND 1", x.parts(0, 1), 1);
        due("19: parts(0, 2), a false one of KIND 0", x.parts(0, 2), 0);
        due("19: parts(0, 3)", x.parts(0, 3), -1);
        due("19: parts(0, -1)", x.parts(0, -1), -1);
        due("19: parts(2, 0)", x.parts(2, 0), -1);
        due("19: parts(-1, 0)", x.parts(-1, 0), -1);
        x.hear(0, 0, 0);
        due("19: parts of one that is heard", x.parts(0, 0), -1);
        due("19: parts of one that is heard", x.parts(0, 1), -1);
        due("19: parts(1, 0)", x.parts(1, 0), 1);
        // a true one of KIND 0 answers as a false one of KIND 1 alone; KIND 0 is no false one's
        x = Checks.made("kind a love 9 wit 0 true 2 false 0;kind b love 1 wit 0 true 1 false 3;kind c love 9 wit 1 true 1 false 1;"
            + "test t harm 5;yields love>5;");
        due("19: it FAILS", x.parts(0, 0), 0);
        due("19: by a true one of KIND 0", x.parts(0, 1), 0);
        due("19: and a false one of KIND 1", x.parts(0, 2), 1);
        x = Checks.made("kind a love 9 wit 0 true 2 false 0;kind b love 1 wit 0 true 0 false 3;test t harm 5;yields love>5;");
        due("19: it PARTS them by what they are of", x.parts(0, 0), 1);
    }

    private static void suring() {
        KingsTest x = Checks.made(TWO);
        due("20: sure(0)", x.sure(0), 2);
        due("20: sure(1)", x.sure(1), 20);
        due("20: sure(2)", x.sure(2), -1);
        due("20: sure(-1)", x.sure(-1), -1);
        x.hear(0, 1, 0);
        due("20: none is needed", x.sure(0), 0);
        due("20: and does no harm", x.sure(1), 0);
        x.undo();
        x.hear(0, 0, 0);
        due("20: it is still needed", x.sure(0), 2);
        x = Checks.made(TWO.replace("harm>10", "harm>20"));
        due("20: without", x.sure(0), -1);
        due("20: without", x.sure(1), -1);
        // RIGHT is 999999 millionths and more, but not all
        x = Checks.made("kind a love 0 wit 0 true 1 false 1;kind b love 1 wit 0 true 9 false 9;mark m true 9 false 1;"
            + "mark n true 9 false 1;mark o true 9 false 1;mark p true 9 false 1;test t harm 1;yields 1=2;first 99;");
        for (int mark = 0; mark < 4; mark++) {
            x.look(mark, 0, 1);
            x.look(mark, 1, 0);
        }
        due("17: nearly all", x.merit(0), 999999);
        due("20: nearly all is not all", x.sure(0), -1);
    }

    private static void coming() {
        KingsTest x = Checks.made(TWO);
        for (int n = 0; n < 30; n += 29) {
            due("21: ahead(" + n + ", 0)", x.ahead(n, 0), 2);
            due("21: ahead(" + n + ", 1)", x.ahead(n, 1), 1000000);
            due("21: ahead(" + n + ", 2)", x.ahead(n, 2), 20);
            due("21: ahead(" + n + ", 3)", x.ahead(n, 3), -1);
            due("21: ahead(" + n + ", -1)", x.ahead(n, -1), -1);
        }
        due("21: ahead(30, 0)", x.ahead(30, 0), -1);
        due("21: ahead(-1, 0)", x.ahead(-1, 0), -1);
        x.look(0, 0, 0);
        x.look(0, 1, 1);
        x.hear(0, 0, 0);
        due("18: best() now", x.best(), 2);
        x.hear(1, 1, 0);
        due("18: best() now", x.best(), 0);
        due("21: a case as at first", x.ahead(0, 0), 2);
        due("9: nothing is HEARD more by it", x.test(1, 1), 0);
        due("9: nothing is forgotten by it", x.test(1, 2), 2);
        due("10: nor looked for", x.mark(0, 3), 1 + x.mark(0, 2));
    }

    private static void dueAhead(KingsTest x, String when, int... sets) {
        for (int n = 0; n < sets.length; n++) {
            due("21: " + when + ", ahead(" + n + ", 0)", x.ahead(n, 0), sets[n]);
            due("21: " + when + ", ahead(" + n + ", 1)", x.ahead(n, 1), sets[n] == 0 ? 500000 : 1000000);
            due("21: " + when + ", ahead(" + n + ", 2)", x.ahead(n, 2), sets[n] == 0 ? 0 : 5);
        }
    }

    private static void worn() {
        KingsTest x = Checks.made(WORN);
        dueAhead(x, "at first", 1, 1, 0, 0, 0);
        due("21: ahead(29, 1)", x.ahead(29, 1), 500000);
        x.hear(0, 1, 0);
        dueAhead(x, "heard now", 1, 0, 0);
        x.look(0, 0, 1);
        dueAhead(x, "looked for now", 1, 0, 0);
        x.judge(0);
        dueAhead(x, "heard once", 1, 0, 0);
        x.hear(0, 0, 1);
        dueAhead(x, "heard once and now", 0, 0);
        x.judge(0);
        dueAhead(x, "heard twice", 0, 0);
        due("11: heard twice", x.yields(0, 0, 1), 0);
        due("18: heard twice", x.best(), 0);
        x.undo();
        x.undo();
        dueAhead(x, "undone", 1, 0, 0);
        x.chance(2);
        dueAhead(x, "after cases by the seed", 0, 0);
        x.undo();
        dueAhead(x, "undone again", 1, 0, 0);
        Checks.onChecked(x, 0, 0, 0, 0, 2, 0, 0, 0);
        dueAhead(x, "by an image", 0, 0);
        Checks.court(x, WORN);
        dueAhead(x, "a new court", 1, 1, 0);
        x = Checks.made("kind a love 9 wit 0 true 1 false 1;test t harm 5;yields truth=1 and not heard=100;");
        Checks.onChecked(x, 0, 0, 0, 0, 98, 0);
        dueAhead(x, "99 at most", 1, 1, 1, 1);
        Checks.onChecked(x, 0, 0, 0, 0, 99, 2);
        dueAhead(x, "99 at most, heard now", 1, 1);
    }

    private static void knowing() {
        KingsTest x = Checks.made(WORN);
        due("22: known(0, 0)", x.known(0, 0), 1000000);
        due("22: known(0, 1)", x.known(0, 1), 1000000);
        due("22: known(0, 2)", x.known(0, 2), 500000);
        due("22: known(0, 99)", x.known(0, 99), 500000);
        due("22: known(0, 100)", x.known(0, 100), -1);
        due("22: known(0, -1)", x.known(0, -1), -1);
        due("22: known(1, 0)", x.known(1, 0), -1);
        due("22: known(-1, 0)", x.known(-1, 0), -1);
        x.look(0, 0, 1);
        due("14: odds now", x.odds(0), 800000);
        due("22: in a case as at first", x.known(0, 2), 500000);
        x.hear(0, 1, 0);
        due("22: in a case as at first", x.known(0, 2), 500000);
        due("22: in a case as at first", x.known(0, 1), 1000000);
        due("9: as often HEARD as before", x.test(0, 1), 0);
        x = Checks.made(TWO);
        due("22: by this one alone", x.known(0, 0), 866666);
    }

    private static void noWorld() {
        KingsTest x = Checks.made(NOBODY);
        due("13: weight", x.weight(0, 0, 0), 0);
        due("14: odds", x.odds(0), -1);
        due("15: kinds", x.kinds(0, 0), -1);
        due("16: would", x.would(0, 0), -1);
        due("17: merit", x.merit(0), KingsTest.NOTHING);
        due("17: merit", x.merit(1), KingsTest.NOTHING);
        due("18: best", x.best(), -1);
        due("19: no two WORLDS", x.parts(0, 0), 1);
        due("19: by none", x.parts(0, 1), -1);
        due("20: sure", x.sure(0), -1);
        due("20: sure", x.sure(1), -1);
        for (int what = 0; what < 3; what++) {
            due("21: ahead", x.ahead(3, what), -1);
        }
        due("22: known", x.known(0, 0), -1);
        due("24: trick", x.trick(), 1);
        // heard as it can't be, in this case alone
        x = Checks.made("kind a love 9 wit 0 true 1 false 1;test t harm 5;");
        Checks.due("34: heard that both have yielded", Checks.onChecked(x, 0, 0, 0, 0, 0, 4), true);
        due("14: odds", x.odds(0), -1);
        due("18: best", x.best(), -1);
        due("20: sure", x.sure(0), -1);
        due("17: merit", x.merit(0), KingsTest.NOTHING);
        due("21: a case as at first has its WORLDS", x.ahead(0, 0), 1);
        due("22: a case as at first has its WORLDS", x.known(0, 3), 1000000);
        x.judge(0);
        due("14: odds of the next case", x.odds(0), 500000);
    }

    private static void tricks() {
        KingsTest x = Checks.made(TWO);
        due("24: all tests, if nothing is", x.trick(), 3);
        due("23: tell", Checks.tell(x, 0, 0, 1, 0), 1);
        due("23: rows", x.has(9), 1);
        due("24: the true one yields", x.trick(), 1);
        due("23: tell", Checks.tell(x, 0, 1, 0, 1), 1);
        due("24: the false one yields", x.trick(), 2);
        due("23: tell", Checks.tell(x, 1, 0, 0, 0), 1);
        due("24: none yields", x.trick(), 1);
        due("23: two rows", Checks.tell(x, 1, 0, 0, 0, 0, 0, 1, 0), 2);
        due("23: rows", x.has(9), 2);
        due("24: all is so", x.trick(), 1);
        due("23: two rows", Checks.tell(x, 1, 0, 0, 0, 0, 0, 0, 1), 2);
        due("24: none it can be", x.trick(), 0);
        x.judge(0);
        x.undo();
        due("24: no ACT, it stays", x.has(9), 2);
        x = Checks.made(WORN);
        Checks.tell(x, 0, 0, 1, 0);
        due("24: as they are HEARD now", x.trick(), 1);
        Checks.onChecked(x, 0, 0, 0, 0, 2, 0, 0, 0);
        due("23: an image leaves it", x.has(9), 1);
        due("24: as they are HEARD now", x.trick(), 0);
    }

    private static void dueNotTold(KingsTest x, int... octets) {
        int before = x.status(1);
        due("23: none such", Checks.tell(x, octets), -1);
        due("23: refused", x.status(1), before + 1);
        due("23: all stays", x.has(9), 1);
        due("23: the tape goes", x.feed(0, 0, 0, 0, 0), 20);
    }

    private static void tellingWrong() {
        KingsTest x = Checks.made(TWO);
        Checks.tell(x, 1, 1, 1, 1);
        due("23: the tape goes", x.feed(0, 0, 0, 0, 0), 20);
        dueNotTold(x);
        dueNotTold(x, 0);
        dueNotTold(x, 0, 0, 0);
        dueNotTold(x, 0, 0, 0, 0, 0);
        dueNotTold(x, 2, 0, 0, 0);
        dueNotTold(x, 0, 2, 0, 0);
        dueNotTold(x, 0, 0, 2, 0);
        dueNotTold(x, 0, 0, 0, 2);
        dueNotTold(x, 255, 0, 0, 0);
        dueNotTold(x, 0, 0, 0, 0, 0, 0, 0, 2);
        dueNotTold(x, new int[68]);
        due("5: no FAULT of a court", x.fault(0), 0);
        due("23: sixteen rows", Checks.tell(x, new int[64]), 16);
        due("24: by these", x.trick(), 0);
        due("23: rows", x.has(9), 16);
    }
}
