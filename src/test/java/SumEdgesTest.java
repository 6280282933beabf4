/** Terms I and IV: what a SUM, a TEST gives, held at 10 to the 6, divided by 0, from the left on; promise 11. */
public final class SumEdgesTest {
    private static final String ONE = "kind k love 60 wit 7 true 1 false 1;test t harm 13;";
    private static final String MILLION = "1000*1000";

    public static void main(String[] args) {
        sumsHeld();
        differencesHeld();
        productsHeld();
        heldOnTheWay();
        heldFromTheLeft();
        heldInBrackets();
        comparedAtTheBounds();
        quotients();
        dividedByNothing();
        leastAndGreatest();
        signs();
        fromTheLeft();
        andOrNot();
        partsOfOne();
        yieldsOfNone();
        yieldsByHeard();
        withoutYields();
        Checks.finish();
    }

    /** Asked as a QUESTION, and as a rule of yields, where 1 tells that it is so and not one more or less. */
    private static void dueSum(String sum, long want) {
        KingsTest x = Checks.made(ONE);
        Checks.dueAsked(x, "total " + sum, want);
        Checks.dueAsked(x, "most " + sum, want);
        Checks.dueAsked(x, "least " + sum, want);
        dueTest(sum + "=" + told(want), 1);
        dueTest(sum + "<" + told(want), 0);
        dueTest(sum + ">" + told(want), 0);
    }

    // a number as a SUM that can tell it
    private static String told(long number) {
        long size = Math.abs(number);
        String all = size / 1000 + "*1000+" + size % 1000;
        return number < 0 ? "0-" + size / 1000 + "*1000-" + size % 1000 : all;
    }

    private static void dueTest(String test, int want) {
        KingsTest x = Checks.made(ONE + "yields " + test + ";");
        Checks.due("I: " + test, x.yields(0, 0, 1), want);
        if (!test.contains("love") && !test.contains("wit") && !test.contains("truth")) {
            Checks.dueAsked(x, "first " + test, want - 1);
            Checks.dueAsked(x, "often " + test, want);
        }
    }

    // "each sum .. above 10 to the 6 is that, below -10 to the 6 likewise"
    private static void sumsHeld() {
        dueSum("999*1000+999", 999999);
        dueSum("999*1000+999+1", 1000000);
        dueSum("999*1000+1000", 1000000);
        dueSum("999*1000+1001", 1000000);
        dueSum(MILLION + "+0", 1000000);
        dueSum(MILLION + "+1", 1000000);
        dueSum("1+" + MILLION, 1000000);
        dueSum(MILLION + "+" + MILLION, 1000000);
        dueSum("(0-999*1000)+(0-999)", -999999);
        dueSum("(0-999*1000)+(0-1000)", -1000000);
        dueSum("(0-999*1000)+(0-1001)", -1000000);
        dueSum("(0-" + MILLION + ")+(0-" + MILLION + ")", -1000000);
    }

    // "each .. difference .."
    private static void differencesHeld() {
        dueSum("0-999*1000-999", -999999);
        dueSum("0-999*1000-1000", -1000000);
        dueSum("0-999*1000-1001", -1000000);
        dueSum("0-" + MILLION + "-0", -1000000);
        dueSum("0-" + MILLION + "-1", -1000000);
        dueSum("0-" + MILLION + "-" + MILLION, -1000000);
        dueSum("999*1000-(0-999)", 999999);
        dueSum("999*1000-(0-1000)", 1000000);
        dueSum("999*1000-(0-1001)", 1000000);
        dueSum(MILLION + "-(0-" + MILLION + ")", 1000000);
        dueSum(MILLION + "-" + MILLION, 0);
    }

    // "each .. product .."
    private static void productsHeld() {
        dueSum("999*1001", 999999);
        dueSum("1000*1000", 1000000);
        dueSum("101*9901", 1000000);
        dueSum("1001*1000", 1000000);
        dueSum("9999*9999", 1000000);
        dueSum("9999*9999*9999*9999*9999*9999", 1000000);
        dueSum("(0-999)*1001", -999999);
        dueSum("(0-1000)*1000", -1000000);
        dueSum("1000*(0-1000)", -1000000);
        dueSum("(0-101)*9901", -1000000);
        dueSum("9999*(0-9999)", -1000000);
        dueSum("(0-9999)*(0-9999)", 1000000);
        dueSum("(" + MILLION + ")*(" + MILLION + ")", 1000000);
        dueSum("(" + MILLION + ")*(0-" + MILLION + ")", -1000000);
        dueSum("(0-" + MILLION + ")*(0-" + MILLION + ")", 1000000);
        dueSum("(" + MILLION + ")*0", 0);
    }

    // each is held, not what comes out in the end alone
    private static void heldOnTheWay() {
        dueSum("9999*9999-1", 999999);
        dueSum("9999*9999-9999*9999", 0);
        dueSum("9999*9999/1000", 1000);
        dueSum("9999*9999/9999", 100);
        dueSum("9999*9999+9999-9999", 990001);
        dueSum("0-9999*9999-9999+9999", -990001);
        dueSum(MILLION + "+1-1", 999999);
        dueSum("0-" + MILLION + "-1+1", -999999);
        dueSum("(" + MILLION + "+1)*1", 1000000);
        dueSum("min(" + MILLION + "+5,9999*9999)", 1000000);
    }

    private static void heldFromTheLeft() {
        dueSum("9999*9999/9999*0", 0);
        dueSum("9999/9999*9999", 9999);
        dueSum(MILLION + "+9999-9999-9999", 980002);
        dueSum(MILLION + "-9999+9999+9999", 1000000);
        dueSum("0-9999*9999", -1000000);
        dueSum("1-9999*9999", -999999);
    }

    private static void heldInBrackets() {
        dueSum("(9999*9999)-(9999*9999-7)", 7);
        dueSum("max(9999*9999,1)-1", 999999);
        dueSum("min(0-9999*9999,1)+1", -999999);
        dueSum("(((9999*9999)))/(1000)", 1000);
    }

    private static void comparedAtTheBounds() {
        dueTest("9999*9999=" + MILLION, 1);
        dueTest("9999*9999>" + MILLION, 0);
        dueTest("9999*9999>" + MILLION + "-1", 1);
        dueTest("0-9999*9999=0-" + MILLION, 1);
        dueTest("0-9999*9999<0-" + MILLION, 0);
        dueTest("0-9999*9999<1-" + MILLION, 1);
    }

    // "/ gives the greatest whole number not above"
    private static void quotients() {
        int[][] all = {{0, 1, 0}, {1, 1, 1}, {1, 2, 0}, {2, 1, 2}, {5, 5, 1}, {4, 5, 0}, {6, 5, 1}, {9, 5, 1}, {10, 5, 2}, {7, 2, 3},
            {9999, 9999, 1}, {9998, 9999, 0}};
        for (int[] row : all) {
            int exact = row[0] % row[1] == 0 ? 0 : 1;
            dueSum(row[0] + "/" + row[1], row[2]);
            dueSum("(0-" + row[0] + ")/" + row[1], -row[2] - exact);
            dueSum(row[0] + "/(0-" + row[1] + ")", -row[2] - exact);
            dueSum("(0-" + row[0] + ")/(0-" + row[1] + ")", row[2]);
        }
        dueSum("(" + MILLION + ")/1", 1000000);
        dueSum("(0-" + MILLION + ")/(0-1)", 1000000);
        dueSum("(0-1)/(" + MILLION + ")", -1);
        dueSum("1/(" + MILLION + ")", 0);
    }

    // "by 0 it gives 0"
    private static void dividedByNothing() {
        dueSum("0/0", 0);
        dueSum("1/0", 0);
        dueSum("9999/0", 0);
        dueSum("(0-1)/0", 0);
        dueSum("5/(3-3)", 0);
        dueSum("5/0+7", 7);
        dueSum("5/0*7", 0);
        dueSum("5/(1/2)", 0);
        dueSum("5/0/0", 0);
        dueTest("5/0=0", 1);
    }

    private static void leastAndGreatest() {
        dueSum("min(1,2)", 1);
        dueSum("min(2,1)", 1);
        dueSum("min(2,2)", 2);
        dueSum("max(1,2)", 2);
        dueSum("max(2,1)", 2);
        dueSum("max(2,2)", 2);
        dueSum("min(0-1,0)", -1);
        dueSum("max(0-1,0)", 0);
        dueSum("max(1+2,2*2)-min(1+2,2*2)", 1);
        dueSum("min(max(1,2),max(3,4))*2", 4);
    }

    // "SIGN < or > or ="
    private static void signs() {
        int[][] all = {{0, 1}, {1, 1}, {2, 1}, {0, 0}, {9999, 9998}, {9998, 9999}, {9999, 9999}};
        for (int[] row : all) {
            dueTest(row[0] + "<" + row[1], row[0] < row[1] ? 1 : 0);
            dueTest(row[0] + ">" + row[1], row[0] > row[1] ? 1 : 0);
            dueTest(row[0] + "=" + row[1], row[0] == row[1] ? 1 : 0);
            dueTest("0-" + row[0] + "<0-" + row[1], row[0] > row[1] ? 1 : 0);
            dueTest("0-" + row[0] + ">0-" + row[1], row[0] < row[1] ? 1 : 0);
        }
    }

    // "All from the left on"
    private static void fromTheLeft() {
        dueSum("9-5-3", 1);
        dueSum("9-5+3", 7);
        dueSum("100/7/2", 7);
        dueSum("100/7*2", 28);
        dueSum("2*7/3", 4);
        dueSum("7/3*2", 4);
        dueSum("2+3*4", 14);
        dueSum("2*3+4", 10);
        dueSum("20-6/4", 19);
        dueSum("(20-6)/4", 3);
        dueSum("2-(3-4)", 3);
    }

    private static void andOrNot() {
        String[] facts = {"all", "not all"};
        for (int a = 0; a < 2; a++) {
            for (int b = 0; b < 2; b++) {
                for (int c = 0; c < 2; c++) {
                    boolean p = a == 0;
                    boolean q = b == 0;
                    boolean r = c == 0;
                    dueTest(facts[a] + " or " + facts[b] + " and " + facts[c], p || q && r ? 1 : 0);
                    dueTest(facts[a] + " and " + facts[b] + " or " + facts[c], p && q || r ? 1 : 0);
                    dueTest("[" + facts[a] + " or " + facts[b] + "] and " + facts[c], (p || q) && r ? 1 : 0);
                    dueTest("not [" + facts[a] + " and " + facts[b] + "] or not " + facts[c], !(p && q) || !r ? 1 : 0);
                }
            }
        }
        dueTest("not not not not not not all", 1);
        dueTest("not not not not not all", 0);
    }

    // "Of a claimant's KIND love and wit; of a test its harm; .. 1 if the claimant is true, else 0"
    private static void partsOfOne() {
        KingsTest x = Checks.made("kind a love 0 wit 99 true 1 false 1;kind b love 99 wit 0 true 1 false 1;test t harm 0;"
            + "test u harm 99;yields love=99 and wit=0 and harm=0 and truth=1 or love=0 and wit=99 and harm=99 and truth=0;");
        for (int i = 0; i < 8; i++) {
            Checks.due("11: yields(" + (i >> 2) + ", " + (i >> 1 & 1) + ", " + (i & 1) + ")", x.yields(i >> 2, i >> 1 & 1, i & 1),
                i == 5 || i == 2 ? 1 : 0);
        }
    }

    // "NONE when there are none such": of KINDS, tests, truth
    private static void yieldsOfNone() {
        String six = Edges.each(6, "kind # love 1 wit 1 true 1 false 1;") + Edges.each(6, "test t# harm 1;");
        Checks.due("11: the last of six", Checks.made(six).yields(5, 5, 1), 1);
        Checks.due("11: the last of six", Checks.made(six).yields(5, 5, 0), 0);
        int[][] none = {{6, 0, 0}, {-1, 0, 0}, {0, 6, 0}, {0, -1, 0}, {0, 0, 2}, {0, 0, -1}, {Integer.MAX_VALUE, 0, 0},
            {Integer.MIN_VALUE, 0, 0}, {0, Integer.MAX_VALUE, 0}, {0, Integer.MIN_VALUE, 0}, {0, 0, Integer.MAX_VALUE},
            {0, 0, Integer.MIN_VALUE}};
        for (int[] row : none) {
            Checks.due("11: none such of six", Checks.made(six).yields(row[0], row[1], row[2]), -1);
            Checks.due("11: of none", new KingsTest().yields(row[0], row[1], row[2]), -1);
        }
        Edges.dueNone("11: the KIND behind the last", Edges::rich, x -> x.yields(2, 0, 0), -1);
        Edges.dueNone("11: the test behind the last", Edges::rich, x -> x.yields(0, 2, 0), -1);
        Edges.dueNone("11: no truth", Edges::rich, x -> x.yields(0, 0, 2), -1);
        Checks.due("11: no KIND", Checks.made("test t harm 1;").yields(0, 0, 1), -1);
        Checks.due("11: no test", Checks.made("kind k love 1 wit 1 true 1 false 1;").yields(0, 0, 1), -1);
    }

    // "in how many cases it was HEARD so far": 0, in this case yet, 99
    private static void yieldsByHeard() {
        KingsTest x = Checks.made("kind k love 1 wit 1 true 1 false 1;test t harm 1;test u harm 1;yields heard=0 or heard=99;");
        Checks.due("11: HEARD in no case", x.yields(0, 0, 0), 1);
        x.hear(0, 1, 1);
        Checks.due("11: HEARD in this case alone", x.yields(0, 0, 0), 1);
        x.judge(0);
        Checks.due("11: HEARD in one case", x.yields(0, 0, 0), 0);
        Checks.due("11: the other one is not", x.yields(0, 1, 0), 1);
        x.undo();
        Checks.due("11: HEARD in no case again", x.yields(0, 0, 0), 1);
        for (int times : new int[] {1, 98}) {
            Checks.onChecked(x, 0, 0, 0, 0, times, 0, 0, 0);
            Checks.due("11: HEARD in " + times, x.yields(0, 0, 0), 0);
        }
        x.hear(0, 0, 0);
        x.judge(0);
        Checks.due("11: HEARD in 99", x.yields(0, 0, 0), 1);
    }

    // "(without it: one who is true)"
    private static void withoutYields() {
        KingsTest x = Checks.made(Edges.each(6, "kind # love 9 wit 1 true 1 false 1;") + Edges.each(6, "test t# harm 1;"));
        for (int i = 0; i < 36; i++) {
            Checks.due("11: who is true", x.yields(i / 6, i % 6, 1), 1);
            Checks.due("11: who is false", x.yields(i / 6, i % 6, 0), 0);
        }
        x = Checks.made(ONE + "yields truth=0;");
        Checks.due("11: by a rule", x.yields(0, 0, 1), 0);
        Checks.court(x, ONE);
        Checks.due("11: without, behind a court that had one", x.yields(0, 0, 1), 1);
        Checks.court(x, ONE + "yields truth=0;yields");
        Checks.due("11: without, behind one with a FAULT", x.yields(0, 0, 1), 1);
    }
}
