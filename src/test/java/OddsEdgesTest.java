/** Terms II, III and promises 13 to 22: odds, sets of tests, cases to come, at each boundary and just beyond. */
public final class OddsEdgesTest {
    private static final int[] FAR = {-2, 64, 1000, Integer.MIN_VALUE, Integer.MAX_VALUE};
    private static final String A = "kind a love 9 wit 0 true 1 false 1;";
    private static final String AB = A + "kind b love 1 wit 0 true 1 false 1;";
    private static final String SIX = Edges.each(6, "kind # love 1 wit 1 true 1 false 1;") + Edges.each(6, "test t# harm 1;");
    /** Nobody who is true is of a KIND, so no WORLD has WEIGHT. */
    private static final String NOBODY = "kind a love 9 wit 0 true 0 false 1;test t harm 5;test u harm 7;mark m true 8 false 2;";

    public static void main(String[] args) {
        weightsByFirst();
        weightsByMarks();
        weightsByAnswers();
        weightsNow();
        weightOfOne();
        weightsOfNone();
        floors();
        allOrNothing();
        oddsOfNone();
        kindsOfNone();
        wouldOfNone();
        noWorld();
        noWorldNow();
        bigOdds();
        meritsOfSets();
        meritsOfNone();
        meritsHeard();
        meritsBelowNothing();
        bestOfLikeOnes();
        bestOfNone();
        parting();
        partingByTheFirst();
        partingNow();
        partingOfNone();
        sureOfLikeOnes();
        sureIsAll();
        sureOfNone();
        aheadByNumber();
        aheadOfNone();
        aheadHeardMore();
        aheadAsItIsNow();
        knownByTimes();
        knownOfEach();
        knownOfNone();
        Checks.finish();
    }

    // "WEIGHT is first (of a hundred), if 0 is true, else what it lacks of a hundred": 1 and 99
    private static void weightsByFirst() {
        for (int first : new int[] {1, 49, 50, 51, 99}) {
            KingsTest x = Checks.made(A + "first " + first + ";");
            Checks.due("13: 0 is true, first " + first, x.weight(0, 0, 0), first);
            Checks.due("13: 1 is true, first " + first, x.weight(1, 0, 0), 100 - first);
            Checks.due("14: first " + first, x.odds(0), first * 10000);
            Checks.due("14: the other one", x.odds(1), (100 - first) * 10000);
        }
        KingsTest x = Checks.made("kind a love 1 wit 1 true 0 false 9;kind b love 1 wit 1 true 9 false 0;first 99;");
        long[] all = {0, 0, 99 * 81, 0, 0, 81, 0, 0};
        for (int i = 0; i < 8; i++) {
            Checks.due("13: none of a KIND, weight " + i, x.weight(i >> 2, i >> 1 & 1, i & 1), all[i]);
        }
    }

    // "how often it is seen (or not, of ten) at one who is true, or false": 1 and 9
    private static void weightsByMarks() {
        String court = "mark m true 1 false 9;mark n true 9 false 1;" + A + "first 60;";
        int[][] marks = {{1, 9}, {9, 1}};
        for (int i = 0; i < 8; i++) {
            int mark = i >> 2;
            int claimant = i >> 1 & 1;
            int seen = i & 1;
            KingsTest x = Checks.made(court);
            x.look(mark, claimant, seen);
            int atTrue = seen == 1 ? marks[mark][0] : 10 - marks[mark][0];
            int atFalse = seen == 1 ? marks[mark][1] : 10 - marks[mark][1];
            Checks.due("13: 0 is true, look " + i, x.weight(0, 0, 0), 60 * (claimant == 0 ? atTrue : atFalse));
            Checks.due("13: 1 is true, look " + i, x.weight(1, 0, 0), 40 * (claimant == 1 ? atTrue : atFalse));
        }
        KingsTest x = Checks.made(court);
        for (int i = 0; i < 4; i++) {
            x.look(i / 2, i % 2, 1);
        }
        Checks.due("13: all of them together, 0 is true", x.weight(0, 0, 0), 60L * 1 * 9 * 9 * 1);
        Checks.due("13: all of them together, 1 is true", x.weight(1, 0, 0), 40L * 9 * 1 * 1 * 9);
    }

    // "and 0, if one of them would not have answered a test that is heard in this case as was heard"
    private static void weightsByAnswers() {
        String court = AB + "test t harm 1;yields love>5;first 50;";
        for (int how = 0; how < 4; how++) {
            KingsTest x = Checks.made(court);
            Checks.due("25: hear", x.hear(0, how & 1, how >> 1), true);
            for (int i = 0; i < 8; i++) {
                boolean so = (i >> 1 & 1) == 1 - (how & 1) && (i & 1) == 1 - (how >> 1);
                Checks.due("13: heard " + how + ", weight " + i, x.weight(i >> 2, i >> 1 & 1, i & 1), so ? 50 : 0);
            }
        }
    }

    // "WEIGHT of a WORLD now": as each ACT leaves it
    private static void weightsNow() {
        KingsTest x = Checks.made(AB + "test t harm 1;mark m true 9 false 1;yields love>5;first 50;");
        dueWeights(x, "at first", 50, 50, 50, 50, 50, 50, 50, 50);
        x.hear(0, 1, 0);
        dueWeights(x, "heard", 0, 50, 0, 0, 0, 50, 0, 0);
        x.look(0, 1, 1);
        dueWeights(x, "looked for", 0, 50, 0, 0, 0, 450, 0, 0);
        x.undo();
        x.undo();
        dueWeights(x, "undone", 50, 50, 50, 50, 50, 50, 50, 50);
        x.hear(0, 0, 0);
        dueWeights(x, "heard else", 0, 0, 0, 50, 0, 0, 0, 50);
        x.judge(0);
        dueWeights(x, "judged", 50, 50, 50, 50, 50, 50, 50, 50);
    }

    private static void dueWeights(KingsTest x, String when, long... all) {
        for (int i = 0; i < 8; i++) {
            Checks.due("13: " + when + ", weight " + i, x.weight(i >> 2, i >> 1 & 1, i & 1), all[i]);
        }
    }

    // the least WEIGHT there is, 1, is a WEIGHT
    private static void weightOfOne() {
        KingsTest x = Checks.made(A + "first 1;price 7;test t harm 1;test u harm 2;");
        x.hear(0, 1, 0);
        Checks.due("13: of the one", x.weight(0, 0, 0), 1);
        Checks.due("13: of the other one", x.weight(1, 0, 0), 0);
        Checks.due("14: odds(0)", x.odds(0), 1000000);
        Checks.due("14: odds(1)", x.odds(1), 0);
        Checks.due("15: kinds(0, 0)", x.kinds(0, 0), 1000000);
        Checks.due("16: would(0, 1)", x.would(0, 1), 1000000);
        Checks.due("17: merit(0)", x.merit(0), 1000000);
        Checks.due("17: merit(2)", x.merit(2), 999986);
        Checks.due("18: best()", x.best(), 0);
        Checks.due("19: parts(1, 0)", x.parts(1, 0), 1);
        Checks.due("20: sure(0)", x.sure(0), 0);
        Checks.due("20: sure(1)", x.sure(1), 0);
    }

    // "NOTHING when there is none such"
    private static void weightsOfNone() {
        KingsTest x = Checks.made(SIX);
        Checks.due("13: the last ones", x.weight(1, 5, 5), 50);
        int[][] none = {{2, 0, 0}, {-1, 0, 0}, {0, 6, 0}, {0, -1, 0}, {0, 0, 6}, {0, 0, -1}};
        for (int[] world : none) {
            Checks.due("13: none such", x.weight(world[0], world[1], world[2]), KingsTest.NOTHING);
            Checks.due("13: of no KINDS", new KingsTest().weight(world[0], world[1], world[2]), KingsTest.NOTHING);
        }
        for (int far : FAR) {
            Checks.due("13: who is true, " + far, x.weight(far, 0, 0), KingsTest.NOTHING);
            Checks.due("13: the KIND of 0, " + far, x.weight(0, far, 0), KingsTest.NOTHING);
            Checks.due("13: the KIND of 1, " + far, x.weight(0, 0, far), KingsTest.NOTHING);
        }
        Checks.due("13: of no KINDS", new KingsTest().weight(0, 0, 0), KingsTest.NOTHING);
        Edges.dueNone("13: who is true", Edges::rich, y -> y.weight(2, 0, 0), KingsTest.NOTHING);
        Edges.dueNone("13: the KIND of 0", Edges::rich, y -> y.weight(0, 2, 0), KingsTest.NOTHING);
        Edges.dueNone("13: the KIND of 1", Edges::rich, y -> y.weight(0, 0, 2), KingsTest.NOTHING);
    }

    // "in millionths (floor)"
    private static void floors() {
        KingsTest x = Checks.made("kind a love 1 wit 1 true 1 false 2;kind b love 1 wit 1 true 2 false 1;test t harm 0;"
            + "yields love>9;");
        Checks.due("15: 50 * {1, 2} / 3 and 50 * {2, 1} / 3", x.kinds(0, 0), 500000);
        x = Checks.made("kind a love 9 wit 1 true 1 false 1;kind b love 1 wit 1 true 2 false 2;test t harm 0;yields love>5;");
        Checks.due("15: a third", x.kinds(0, 0), 333333);
        Checks.due("15: two thirds", x.kinds(0, 1), 666666);
        Checks.due("16: a third", x.would(0, 0), 333333);
        Checks.due("16: a third", x.would(1, 0), 333333);
        x = Checks.made("kind a love 9 wit 1 true 1 false 1;mark m true 1 false 2;first 50;");
        x.look(0, 0, 1);
        Checks.due("14: a third", x.odds(0), 333333);
        Checks.due("14: two thirds", x.odds(1), 666666);
        Checks.due("17: two thirds", x.merit(0), 666666);
        x = Checks.made("kind a love 9 wit 1 true 1 false 1;mark m true 1 false 2;first 50;test t harm 1;yields all;price 3333;");
        x.look(0, 0, 1);
        Checks.due("17: two thirds less harm", x.merit(1), 666666 - 3333);
        Checks.due("21: a half", x.ahead(0, 1), 500000);
    }

    private static void allOrNothing() {
        KingsTest x = Checks.made("kind a love 9 wit 0 true 1 false 0;kind b love 1 wit 0 true 0 false 1;test t harm 1;"
            + "test u harm 2;test v harm 3;yields harm=1 or harm=2 and love>5;");
        Checks.due("16: all", x.would(0, 0), 1000000);
        Checks.due("16: nothing", x.would(0, 2), 0);
        Checks.due("16: a half", x.would(0, 1), 500000);
        Checks.due("15: a half", x.kinds(0, 0), 500000);
        x.hear(1, 1, 0);
        Checks.due("14: all", x.odds(0), 1000000);
        Checks.due("14: nothing", x.odds(1), 0);
        Checks.due("15: all", x.kinds(0, 0), 1000000);
        Checks.due("15: nothing", x.kinds(0, 1), 0);
        Checks.due("16: all", x.would(0, 1), 1000000);
        Checks.due("16: nothing", x.would(1, 1), 0);
        Checks.due("17: all", x.merit(0), 1000000);
    }

    // "NONE when there is none such"
    private static void oddsOfNone() {
        for (int claimant : new int[] {-1, 2, 3, Integer.MIN_VALUE, Integer.MAX_VALUE}) {
            Edges.dueNone("14: odds(" + claimant + ")", Edges::rich, x -> x.odds(claimant), -1);
        }
        Checks.due("14: no KINDS", new KingsTest().odds(0), -1);
        Checks.due("14: no KINDS", new KingsTest().odds(1), -1);
    }

    private static void kindsOfNone() {
        KingsTest x = Checks.made(SIX);
        for (int claimant = 0; claimant < 2; claimant++) {
            Checks.due("15: the last of six", x.kinds(claimant, 5), 166666);
            Checks.due("15: behind the last", x.kinds(claimant, 6), -1);
            Checks.due("15: ahead of the first", x.kinds(claimant, -1), -1);
        }
        for (int far : FAR) {
            Checks.due("15: KIND " + far, x.kinds(0, far), -1);
            Checks.due("15: CLAIMANT " + far, x.kinds(far, 0), -1);
        }
        Edges.dueNone("15: CLAIMANT 2", Edges::rich, y -> y.kinds(2, 0), -1);
        Edges.dueNone("15: CLAIMANT -1", Edges::rich, y -> y.kinds(-1, 0), -1);
        Edges.dueNone("15: behind the last", Edges::rich, y -> y.kinds(0, 2), -1);
        Checks.due("15: no KINDS", new KingsTest().kinds(0, 0), -1);
    }

    private static void wouldOfNone() {
        KingsTest x = Checks.made(SIX);
        for (int claimant = 0; claimant < 2; claimant++) {
            Checks.due("16: the last of six", x.would(claimant, 5), 500000);
            Checks.due("16: behind the last", x.would(claimant, 6), -1);
            Checks.due("16: ahead of the first", x.would(claimant, -1), -1);
        }
        for (int far : FAR) {
            Checks.due("16: test " + far, x.would(0, far), -1);
            Checks.due("16: CLAIMANT " + far, x.would(far, 0), -1);
        }
        Edges.dueNone("16: CLAIMANT 2", Edges::rich, y -> y.would(2, 0), -1);
        Edges.dueNone("16: CLAIMANT -1", Edges::rich, y -> y.would(-1, 0), -1);
        Edges.dueNone("16: behind the last", Edges::rich, y -> y.would(0, 2), -1);
        Checks.due("16: no tests", Checks.made(A).would(0, 0), -1);
    }

    // "or no WORLD has WEIGHT"
    private static void noWorld() {
        KingsTest x = Checks.made(NOBODY);
        Checks.due("13: 0 of one there is", x.weight(1, 0, 0), 0);
        for (int i = 0; i < 2; i++) {
            Checks.due("14: no WORLD", x.odds(i), -1);
            Checks.due("15: no WORLD", x.kinds(i, 0), -1);
            Checks.due("16: no WORLD", x.would(i, i), -1);
            Checks.due("20: no WORLD", x.sure(i), -1);
            Checks.due("22: no WORLD", x.known(i, 99), -1);
            Checks.due("19: no two WORLDS", x.parts(i, 0), 1);
            Checks.due("19: no two WORLDS", x.parts(i, 1), -1);
        }
        for (int set = 0; set < 4; set++) {
            Checks.due("17: no WORLD", x.merit(set), KingsTest.NOTHING);
        }
        Checks.due("18: no WORLD", x.best(), -1);
        for (int what = 0; what < 3; what++) {
            Checks.due("21: no WORLD", x.ahead(0, what), -1);
            Checks.due("21: no WORLD", x.ahead(29, what), -1);
        }
        Checks.due("18: none is false", Checks.made("kind a love 1 wit 1 true 9 false 0;").best(), -1);
        Checks.due("18: one of each", Checks.made("kind a love 1 wit 1 true 1 false 1;").best(), 0);
        Checks.due("18: one true, one false of another KIND",
            Checks.made("kind a love 1 wit 1 true 1 false 0;kind b love 1 wit 1 true 0 false 1;").best(), 0);
    }

    // "(No WORLD may have WEIGHT then.)": by what was heard
    private static void noWorldNow() {
        KingsTest x = Edges.imaged(A + "test t harm 5;test u harm 5;", 0, 0, 0, 0, 0, 4, 0, 0);
        Checks.due("13: no WORLD", x.weight(0, 0, 0), 0);
        Checks.due("14: no WORLD", x.odds(1), -1);
        Checks.due("15: no WORLD", x.kinds(0, 0), -1);
        Checks.due("16: no WORLD", x.would(0, 0), -1);
        Checks.due("17: no WORLD", x.merit(0), KingsTest.NOTHING);
        Checks.due("17: no WORLD", x.merit(2), KingsTest.NOTHING);
        Checks.due("18: no WORLD", x.best(), -1);
        Checks.due("20: no WORLD", x.sure(0), -1);
        Checks.due("20: no WORLD", x.sure(1), -1);
    }

    // all numbers at their most: 99 * 9 * 9 * 9 to the 10, of 36 WORLDS, in millionths all the same
    private static void bigOdds() {
        KingsTest x = Checks.made("first 99;" + Edges.each(6, "kind # love 1 wit 1 true 9 false 9;")
            + Edges.each(5, "mark m# true 9 false 9;") + "test t harm 99;price 9999;yields all;");
        for (int i = 0; i < 10; i++) {
            x.look(i % 5, i / 5, 1);
        }
        long most = 99L * 81 * 3486784401L;
        Checks.due("13: the greatest WEIGHT", x.weight(0, 5, 5), most);
        Checks.due("13: and its like", x.weight(1, 0, 5), most / 99);
        Checks.due("14: odds", x.odds(0), 990000);
        Checks.due("15: kinds", x.kinds(1, 5), 166666);
        Checks.due("16: would", x.would(1, 0), 1000000);
        Checks.due("17: the most harm of one", x.merit(1), 990000 - 99 * 9999);
    }

    // "a set of tests (bits; 0: none)": none, all of six, one more than there are
    private static void meritsOfSets() {
        KingsTest x = Checks.made(SIX + "price 10;yields all;");
        for (int set = 0; set < 64; set++) {
            Checks.due("17: merit(" + set + ")", x.merit(set), 500000 - 10 * Integer.bitCount(set));
        }
        Checks.due("17: merit(64)", x.merit(64), KingsTest.NOTHING);
        Checks.due("17: merit(65)", x.merit(65), KingsTest.NOTHING);
        Checks.due("17: merit(127)", x.merit(127), KingsTest.NOTHING);
        Checks.due("17: merit(0), no tests", Checks.made(A).merit(0), 500000);
        Checks.due("17: merit(1), no tests", Checks.made(A).merit(1), KingsTest.NOTHING);
        Checks.due("17: merit(-1), no tests", Checks.made(A).merit(-1), KingsTest.NOTHING);
    }

    // "NOTHING when .. there are none such"
    private static void meritsOfNone() {
        for (int set : new int[] {4, 5, 8, 64, 1 << 30, Integer.MAX_VALUE, -1, -4, Integer.MIN_VALUE}) {
            KingsTest x = Checks.made(Edges.TWO);
            Checks.due("17: merit(" + set + ")", x.merit(set), KingsTest.NOTHING);
            Edges.dueNone("17: merit(" + set + ")", Edges::rich, y -> y.merit(set), KingsTest.NOTHING);
        }
        Checks.due("17: merit(3)", Checks.made(Edges.TWO).merit(3), 975000);
    }

    // "NOTHING when one of them is heard in this case"
    private static void meritsHeard() {
        KingsTest x = Checks.made(SIX);
        for (int test = 0; test < 6; test++) {
            x.hear(test, 1, 0);
            for (int other = 0; other < 6; other++) {
                Checks.due("17: merit of " + other, x.merit(1 << other) == KingsTest.NOTHING, other <= test);
                Checks.due("17: merit of both", x.merit(1 << other | 1 << test), KingsTest.NOTHING);
            }
            Checks.due("17: none is always left", x.merit(0), 1000000);
        }
        Checks.due("17: all of them", x.merit(63), KingsTest.NOTHING);
        x.judge(0);
        Checks.due("17: all of them in the next case", x.merit(63), 1000000 - 6 * 1000);
        Edges.dueNone("17: one that is heard", Edges::rich, y -> y.merit(1), KingsTest.NOTHING);
        Edges.dueNone("17: one that is heard among them", Edges::rich, y -> y.merit(3), KingsTest.NOTHING);
    }

    // "less harm of all, each times price": far below 0, and not taken for NONE or NOTHING
    private static void meritsBelowNothing() {
        KingsTest x = Checks.made(A + Edges.each(6, "test t# harm 99;") + "price 9999;yields all;");
        Checks.due("17: the least there is", x.merit(63), 500000 - 6L * 99 * 9999);
        Checks.due("18: none is best", x.best(), 0);
        x = Checks.made(A + "test t harm 50;test u harm 0;price 9999;first 99;yields all;");
        Checks.due("17: 990000 less 499950", x.merit(1), 990000 - 499950);
        x = Checks.made(A + "test t harm 99;first 1;price 9999;yields all;");
        Checks.due("17: just above 0", x.merit(1), 990000 - 989901);
        x = Checks.made("kind a love 1 wit 1 true 1 false 1;test t harm 73;price 6850;yields all;first 50;");
        Checks.due("17: just below 0", x.merit(1), 500000 - 73 * 6850);
    }

    // "the greatest MERIT, of like ones the fewest tests, then the least bits (0: none)"
    private static void bestOfLikeOnes() {
        String rule = "yields truth=1 and [harm=10 and love>5 or harm=20 and love<5 or harm>20];";
        String[][] rows = {{"10 20 30", "0", "4"}, {"10 20 40", "0", "4"}, {"10 20 40", "1", "3"}, {"10 20 30", "1", "4"},
            {"10 20 31", "1", "3"}, {"30 10 20", "1", "1"}, {"30 30 30", "1", "1"}, {"40 30 30", "1", "2"}, {"40 40 30", "1", "4"},
            {"40 40 30", "0", "1"}, {"5 5 5", "0", "0"}, {"5 5 5", "1000", "0"}, {"5 30 30", "9999", "2"}};
        for (String[] row : rows) {
            String[] harms = row[0].split(" ");
            KingsTest x = Checks.made(AB + "test t harm " + harms[0] + ";test u harm " + harms[1] + ";test v harm " + harms[2]
                + ";price " + row[1] + ";" + rule);
            Checks.due("18: best of " + row[0] + " at " + row[1], x.best(), Integer.parseInt(row[2]));
            Checks.due("21: the same ahead", x.ahead(0, 0), Integer.parseInt(row[2]));
        }
        // a set of like MERIT as none at all: 900000 and 1000000 less 100000; one millionth apart on either side
        for (int price = 1999; price <= 2001; price++) {
            KingsTest x = Checks.made(A + "test t harm 50;first 90;price " + price + ";");
            Checks.due("17: merit(1) at " + price, x.merit(1), 1000000 - 50 * price);
            Checks.due("18: best at " + price, x.best(), price < 2000 ? 1 : 0);
        }
    }

    // "NONE when no WORLD has WEIGHT"; 0 when all are heard
    private static void bestOfNone() {
        KingsTest x = Checks.made(SIX + "price 0;");
        Checks.due("18: one tells all", x.best(), 1);
        for (int test = 0; test < 6; test++) {
            x.hear(test, 1, 0);
            Checks.due("18: behind what tells all", x.best(), 0);
        }
        // what is heard tells nothing here, so another one is best
        x = Checks.made(AB + "test t harm 1;test u harm 2;price 0;yields harm=2 and truth=1;");
        Checks.due("18: the second", x.best(), 2);
        x.hear(0, 0, 0);
        Checks.due("18: the second still", x.best(), 2);
        x.undo();
        x.hear(1, 0, 1);
        Checks.due("18: none", x.best(), 0);
        Checks.due("18: no tests", Checks.made(A).best(), 0);
    }

    // "if there are no two WORLDS of WEIGHT above 0, in one of which 0 is true, in the other one 1, that answer it alike"
    private static void parting() {
        KingsTest x = Checks.made(A + "test t harm 1;test u harm 2;test v harm 3;yields harm=1 and truth=1 or harm=2;");
        int[][] dues = {{1, -1, -1}, {0, 0, 0}, {0, 0, 0}};
        for (int i = 0; i < 9; i++) {
            Checks.due("19: parts(" + i / 3 + ", " + i % 3 + ")", x.parts(i / 3, i % 3), dues[i / 3][i % 3]);
        }
        // b is answered alike, but nobody true is of it: WEIGHT 0
        String court = "kind a love 9 wit 0 true 1 false 1;kind b love 1 wit 0 true # false 1;test t harm 1;"
            + "yields truth=1 and love>5;";
        Checks.due("19: nobody true is of it", Checks.made(court.replace("#", "0")).parts(0, 0), 1);
        Checks.due("19: one of ten is", Checks.made(court.replace("#", "1")).parts(0, 0), 0);
        Checks.due("19: one of ten is", Checks.made(court.replace("#", "1")).parts(0, 1), 1);
        Checks.due("19: one of ten is", Checks.made(court.replace("#", "1")).parts(0, 2), 0);
    }

    // "by the first KIND of a true one, then of a false one"
    private static void partingByTheFirst() {
        String six = Edges.each(6, "kind # love 1 wit 1 true 1 false 1;").replace("f love 1", "f love 9");
        String rule = "test t harm 1;yields truth=1 or love>5;";
        Checks.due("19: a true one of KIND 0", Checks.made(six + rule).parts(0, 1), 0);
        Checks.due("19: a false one of KIND 5", Checks.made(six + rule).parts(0, 2), 5);
        rule = "test t harm 1;yields truth=1 and love<5;";
        Checks.due("19: a true one of KIND 5", Checks.made(six + rule).parts(0, 1), 5);
        Checks.due("19: a false one of KIND 0", Checks.made(six + rule).parts(0, 2), 0);
        // only a false one of c yields as a true one of a does; a true one of b is as a false one of a
        String three = "kind a love 1 wit 0 true 1 false 1;kind b love 2 wit 0 true 1 false 1;kind c love 3 wit 0 true 0 false 1;";
        rule = "test t harm 1;yields truth=1 and love=1 or truth=0 and love=3;";
        KingsTest x = Checks.made(three + rule);
        Checks.due("19: a true one of a", x.parts(0, 1), 0);
        Checks.due("19: a false one of a", x.parts(0, 2), 0);
        x = Checks.made(three.replace("true 0 false 1", "true 0 false 0") + rule);
        Checks.due("19: without c a true one of b", x.parts(0, 1), 1);
        Checks.due("19: without c a false one of a", x.parts(0, 2), 0);
    }

    // "PARTS them now": in WORLDS that can be behind what is heard
    private static void partingNow() {
        KingsTest x = Checks.made(AB + "test t harm 1;test u harm 2;yields harm=1 and love>5 or harm=2 and truth=1 and love>5;");
        Checks.due("19: b true answers as b false", x.parts(1, 0), 0);
        Checks.due("19: a true one of KIND 1", x.parts(1, 1), 1);
        x.hear(0, 1, 1);
        Checks.due("19: both are of KIND 0", x.parts(1, 0), 1);
        Checks.due("19: it FAILS by none", x.parts(1, 1), -1);
        Checks.due("19: it FAILS by none", x.parts(1, 2), -1);
        x.undo();
        x.hear(0, 0, 1);
        Checks.due("19: 0 is of KIND 1, 1 of KIND 0", x.parts(1, 0), 1);
        x.undo();
        x.hear(0, 0, 0);
        Checks.due("19: both are of KIND 1", x.parts(1, 0), 0);
        Checks.due("19: a true one of KIND 1", x.parts(1, 1), 1);
        Checks.due("19: a false one of KIND 1", x.parts(1, 2), 1);
    }

    // "NONE when it is heard in this case, there is none such, or for others"
    private static void partingOfNone() {
        KingsTest x = Checks.made(SIX);
        for (int what = 0; what < 3; what++) {
            Checks.due("19: the last of six", x.parts(5, what), what == 0 ? 1 : -1);
            Checks.due("19: behind the last", x.parts(6, what), -1);
            Checks.due("19: ahead of the first", x.parts(-1, what), -1);
        }
        Checks.due("19: parts(0, 3)", Checks.made(SIX + "yields all;").parts(0, 3), -1);
        Checks.due("19: parts(0, -1)", Checks.made(SIX + "yields all;").parts(0, -1), -1);
        for (int far : FAR) {
            Checks.due("19: test " + far, x.parts(far, 0), -1);
            Checks.due("19: what " + far, x.parts(0, far), -1);
        }
        x.hear(5, 1, 0);
        Checks.due("19: it is heard", x.parts(5, 0), -1);
        Checks.due("19: the others are not", x.parts(4, 0), 1);
        x.judge(0);
        Checks.due("19: it was heard in another case", x.parts(5, 0), 1);
        Edges.dueNone("19: it is heard", Edges::rich, y -> y.parts(0, 0), -1);
        Edges.dueNone("19: behind the last", Edges::rich, y -> y.parts(2, 0), -1);
        Edges.dueNone("19: for others", Edges::rich, y -> y.parts(1, 3), -1);
        Checks.due("19: no tests", Checks.made(A).parts(0, 0), -1);
    }

    // "the one of least harm, of like ones the fewest, then the least bits"
    private static void sureOfLikeOnes() {
        String rule = "yields truth=1 and [harm=10 and love>5 or harm=20 and love<5 or harm>20];";
        String[][] rows = {{"10 20 30", "4", "30"}, {"10 20 31", "3", "30"}, {"10 20 40", "3", "30"}, {"30 30 30", "1", "30"},
            {"40 30 30", "2", "30"}, {"40 35 30", "4", "30"}, {"10 10 20", "5", "30"}, {"20 10 10", "3", "30"},
            {"10 10 10", "-1", "-1"}, {"20 20 20", "-1", "-1"}, {"99 98 97", "4", "97"}};
        for (String[] row : rows) {
            String[] harms = row[0].split(" ");
            for (String price : new String[] {"0", "1", "9999"}) {
                KingsTest x = Checks.made(AB + "test t harm " + harms[0] + ";test u harm " + harms[1] + ";test v harm " + harms[2]
                    + ";price " + price + ";" + rule);
                Checks.due("20: sure of " + row[0], x.sure(0), Integer.parseInt(row[1]));
                Checks.due("20: its harm of " + row[0], x.sure(1), Integer.parseInt(row[2]));
            }
        }
        KingsTest x = Checks.made(A + "test t harm 0;test u harm 0;");
        Checks.due("20: of no harm", x.sure(0), 1);
        Checks.due("20: of no harm", x.sure(1), 0);
        x.hear(0, 1, 0);
        Checks.due("20: none is needed", x.sure(0), 0);
        Checks.due("20: none does no harm", x.sure(1), 0);
    }

    // "behind which RIGHT is all": one WORLD of the least WEIGHT judged wrong is enough to miss it
    private static void sureIsAll() {
        String court = "kind a love 9 wit 0 true 9 false 9;kind b love 1 wit 0 true # false 9;first 99;test t harm 1;"
            + "yields truth=1 and love>5;" + Edges.each(5, "mark m# true 9 false 1;");
        for (int often = 0; often <= 1; often++) {
            KingsTest x = Checks.made(court.replace("#", "" + often));
            for (int i = 0; i < 5; i++) {
                x.look(i, 0, 1);
                x.look(i, 1, 0);
            }
            Checks.due("17: nearly all", x.merit(0), 999999);
            Checks.due("20: sure, " + often + " of a KIND that fails", x.sure(0), often == 0 ? 1 : -1);
            Checks.due("20: sure, " + often + " of a KIND that fails", x.sure(1), often == 0 ? 1 : -1);
        }
        Checks.due("20: no tests", Checks.made(A).sure(0), -1);
        Checks.due("20: no tests", Checks.made(A).sure(1), -1);
    }

    // "NONE without, when no WORLD has WEIGHT, or for others"
    private static void sureOfNone() {
        for (int what : new int[] {-1, 2, 3, Integer.MIN_VALUE, Integer.MAX_VALUE}) {
            Edges.dueNone("20: sure(" + what + ")", Edges::rich, x -> x.sure(what), -1);
        }
        Checks.due("20: of no KINDS", new KingsTest().sure(0), -1);
        KingsTest x = Checks.made(SIX + "yields all;");
        Checks.due("20: without", x.sure(0), -1);
        Checks.due("20: without", x.sure(1), -1);
        // one that would do is heard already, and another was heard with it
        x = Checks.made(AB + "test t harm 1;test u harm 2;yields harm=2 and truth=1;");
        Checks.due("20: the second", x.sure(0), 2);
        x.hear(0, 0, 0);
        Checks.due("20: the second still", x.sure(0), 2);
        x.hear(1, 1, 0);
        Checks.due("20: none is needed", x.sure(0), 0);
    }

    // "(0 .. 29; 0 the next one that begins)", "(30 at most)"
    private static void aheadByNumber() {
        // from its 28th case on a test tells nothing: of 30 AHEAD the last two do without it
        KingsTest x = Checks.made(A + "test t harm 3;yields truth=1 and heard<28;");
        for (int n = 0; n < 30; n++) {
            Checks.due("21: ahead(" + n + ", 0)", x.ahead(n, 0), n < 28 ? 1 : 0);
            Checks.due("21: ahead(" + n + ", 1)", x.ahead(n, 1), n < 28 ? 1000000 : 500000);
            Checks.due("21: ahead(" + n + ", 2)", x.ahead(n, 2), n < 28 ? 3 : 0);
        }
        Checks.due("21: ahead(30, 0)", x.ahead(30, 0), -1);
        x = Checks.made(A + "test t harm 3;yields truth=1 and heard<28;");
        Checks.due("21: the last one first", x.ahead(29, 2), 0);
        Checks.due("21: then one ahead of it", x.ahead(27, 2), 3);
        x = Checks.made(A);
        Checks.due("21: no tests", x.ahead(29, 0), 0);
        Checks.due("21: no tests", x.ahead(29, 1), 500000);
        Checks.due("21: no tests", x.ahead(29, 2), 0);
    }

    // "NONE when n can't be, .. or for others"
    private static void aheadOfNone() {
        for (int n : new int[] {-1, 30, 31, Integer.MIN_VALUE, Integer.MAX_VALUE}) {
            for (int what = 0; what < 3; what++) {
                int asked = what;
                Edges.dueNone("21: ahead(" + n + ", " + what + ")", Edges::rich, x -> x.ahead(n, asked), -1);
            }
        }
        for (int what : new int[] {-1, 3, 4, Integer.MIN_VALUE, Integer.MAX_VALUE}) {
            Edges.dueNone("21: ahead(0, " + what + ")", Edges::rich, x -> x.ahead(0, what), -1);
            Edges.dueNone("21: ahead(29, " + what + ")", Edges::rich, x -> x.ahead(29, what), -1);
        }
        Checks.due("21: no KINDS", new KingsTest().ahead(0, 0), -1);
    }

    // "(what is heard in it now is HEARD in one case more then)", "(99 at most)"
    private static void aheadHeardMore() {
        String court = A + "test t harm 5;test u harm 9;yields harm=5 and truth=1 and not heard=1 or harm=9 and truth=1;";
        KingsTest x = Checks.made(court);
        int[] sets = {1, 2, 2};
        for (int n = 0; n < 3; n++) {
            Checks.due("21: ahead(" + n + ", 0)", x.ahead(n, 0), sets[n]);
        }
        x.hear(0, 1, 0);
        Checks.due("21: heard now", x.ahead(0, 0), 2);
        x.undo();
        x.hear(1, 1, 0);
        Checks.due("21: another one is heard now", x.ahead(0, 0), 1);
        x = Edges.imaged(A + "test t harm 5;yields truth=1 and not heard=99;", 0, 0, 0, 0, 97, 0);
        for (int n = 0; n < 5; n++) {
            Checks.due("21: 97 and " + n, x.ahead(n, 0), n < 2 ? 1 : 0);
        }
        x = Edges.imaged(A + "test t harm 5;yields truth=1 and not heard<99;", 0, 0, 0, 0, 99, 2);
        for (int n = 0; n < 30; n++) {
            Checks.due("21: 99 at most", x.ahead(n, 0), 1);
        }
        x = Edges.imaged(A + "test t harm 5;yields truth=1 and not heard<99;", 0, 0, 0, 0, 98, 0);
        Checks.due("21: 98, and none is heard", x.ahead(29, 0), 0);
    }

    // each ACT, each undone one, AN IMAGE and a court change what is AHEAD, asked before or not
    private static void aheadAsItIsNow() {
        String court = A + "test t harm 5;yields truth=1 and heard<2;";
        KingsTest x = Checks.made(court);
        dueAhead(x, "at first", 1, 1, 0);
        x.hear(0, 1, 0);
        dueAhead(x, "heard", 1, 0, 0);
        x.judge(0);
        dueAhead(x, "judged", 1, 0, 0);
        x.hear(0, 0, 1);
        dueAhead(x, "heard again", 0, 0, 0);
        x.undo();
        dueAhead(x, "undone", 1, 0, 0);
        x.undo();
        x.undo();
        dueAhead(x, "all undone", 1, 1, 0);
        x.chance(1);
        dueAhead(x, "a case by the seed", 1, 0, 0);
        x.undo();
        dueAhead(x, "and undone", 1, 1, 0);
        Checks.onChecked(x, 0, 0, 0, 0, 2, 0);
        dueAhead(x, "an image", 0, 0, 0);
        Checks.court(x, court);
        dueAhead(x, "a court", 1, 1, 0);
        Checks.court(x, court.replace("heard<2", "heard<1"));
        dueAhead(x, "another court", 1, 0, 0);
        Checks.court(x, court + "?");
        dueAhead(x, "one with a FAULT", 1, 0, 0);
    }

    private static void dueAhead(KingsTest x, String when, int... sets) {
        for (int n = 0; n < sets.length; n++) {
            Checks.due("21: " + when + ", ahead(" + n + ", 0)", x.ahead(n, 0), sets[n]);
        }
    }

    // "HEARD in so many cases (0 .. 99)"
    private static void knownByTimes() {
        KingsTest x = Checks.made(A + "test t harm 5;test u harm 5;yields truth=1 and [heard=0 or heard=99] or harm=6;");
        for (int heard = 0; heard < 100; heard++) {
            Checks.due("22: known(0, " + heard + ")", x.known(0, heard), heard == 0 || heard == 99 ? 1000000 : 500000);
        }
        Checks.due("22: known(1, 99)", x.known(1, 99), 1000000);
        Checks.due("22: known(1, 98)", x.known(1, 98), 500000);
        Checks.due("22: known(0, 100)", x.known(0, 100), -1);
        Checks.due("22: known(0, -1)", x.known(0, -1), -1);
        // "in a case as at first", by one test alone
        x = Checks.made(Edges.TWO);
        x.hear(1, 0, 1);
        x.look(0, 0, 1);
        Checks.due("22: one that is heard now", x.known(1, 0), 1000000);
        Checks.due("22: one that is not", x.known(0, 0), 866666);
    }

    // of each of six tests, each number of cases tells something of its own
    private static void knownOfEach() {
        StringBuilder court = new StringBuilder(A);
        for (int test = 0; test < 6; test++) {
            court.append("test t").append((char) ('a' + test)).append(" harm ").append(test + 2).append(";");
        }
        court.append("yields truth=1 and heard/harm*harm=heard;");
        for (int from = 0; from < 6; from += 2) {
            KingsTest x = Checks.made(court.toString());
            for (int heard = 0; heard < 100; heard++) {
                for (int test : new int[] {from, from + 1, 5 - from, 4 - from}) {
                    boolean tells = heard % (test + 2) == 0;
                    Checks.due("22: known(" + test + ", " + heard + ")", x.known(test, heard), tells ? 1000000 : 500000);
                }
            }
        }
    }

    // "NONE when there is none such, it can't be"
    private static void knownOfNone() {
        for (int heard : new int[] {-1, 100, 101, Integer.MIN_VALUE, Integer.MAX_VALUE}) {
            Edges.dueNone("22: known(0, " + heard + ")", Edges::rich, x -> x.known(0, heard), -1);
        }
        for (int test : new int[] {-1, 2, 6, Integer.MIN_VALUE, Integer.MAX_VALUE}) {
            Edges.dueNone("22: known(" + test + ", 0)", Edges::rich, x -> x.known(test, 0), -1);
        }
        KingsTest x = Checks.made(SIX);
        Checks.due("22: the last of six", x.known(5, 99), 1000000);
        Checks.due("22: behind the last", x.known(6, 99), -1);
        Checks.due("22: no tests", Checks.made(A).known(0, 0), -1);
        Checks.due("22: no KINDS", Checks.made("test t harm 1;").known(0, 0), -1);
    }
}
