/** Promises 9, 10, 12 and 25 to 30: what is heard, looked for, judged, by the seed, undone. */
public final class ActsTest {
    private static final String TWO = "kind a love 9 wit 0 true 2 false 1;kind b love 1 wit 0 true 1 false 3;test t harm 5;"
        + "test u harm 20;mark m true 8 false 3;first 60;yields truth=1 and love>harm or truth=0 and harm>10;";
    /** The first test is best here: u would tell all, but its harm is worth more. */
    private static final String DEAR = TWO + "price 9999;";

    public static void main(String[] args) {
        hearing();
        notHearing();
        looking();
        judging();
        mostOfAll();
        keeping();
        bySeed();
        bySeedWithAnswers();
        seedAlone();
        noSuchCase();
        notBySeed();
        likeOnes();
        undoing();
        undoingMany();
        Checks.finish();
    }

    private static void due(String call, long got, long want) {
        Checks.due(call, got, want);
    }

    private static void due(String call, boolean got, boolean want) {
        Checks.due(call, got, want);
    }

    private static void hearing() {
        KingsTest x = Checks.made(TWO);
        due("9: test(0, 0)", x.test(0, 0), 5);
        due("9: test(1, 0)", x.test(1, 0), 20);
        due("9: test(0, 3)", x.test(0, 3), -1);
        due("9: test(0, -1)", x.test(0, -1), -1);
        due("9: test(2, 0)", x.test(2, 0), -1);
        due("9: test(-1, 0)", x.test(-1, 0), -1);
        int[][] ways = {{0, 0, 0, 1}, {0, 1, 0, 2}, {0, 0, 1, 3}, {1, 1, 0, 2}, {1, 0, 1, 3}};
        for (int[] way : ways) {
            due("9: not heard", x.test(way[0], 2), 0);
            due("25: hear", x.hear(way[0], way[1], way[2]), true);
            due("9: as it was heard", x.test(way[0], 2), way[3]);
            due("6: tests heard", x.has(6), 1);
            due("9: HEARD in no case yet", x.test(way[0], 1), 0);
            due("6: no harm yet", x.has(5), 0);
            x.undo();
        }
        x = Checks.made("kind a love 9 wit 0 true 2 false 1;test t harm 5;yields all;");
        due("25: both", x.hear(0, 1, 1), true);
        due("9: both", x.test(0, 2), 4);
        due("6: ACTS", x.has(10), 1);
    }

    private static void notHearing() {
        KingsTest x = Checks.made(TWO);
        due("25: none such", x.hear(2, 0, 0), false);
        due("25: none such", x.hear(-1, 0, 0), false);
        due("25: others", x.hear(0, 2, 0), false);
        due("25: others", x.hear(0, -1, 0), false);
        due("25: others", x.hear(0, 0, 2), false);
        due("25: others", x.hear(0, 0, -1), false);
        due("25: no WORLD would have WEIGHT", x.hear(0, 1, 1), false);
        due("25: no WORLD would have WEIGHT", x.hear(1, 0, 0), false);
        due("35: refused", x.status(2), 8);
        due("6: no ACT", x.has(10), 0);
        due("6: nothing heard", x.has(6), 0);
        due("9: nothing heard", x.test(0, 2), 0);
        due("25: hear", x.hear(0, 1, 0), true);
        due("25: once", x.hear(0, 1, 0), false);
        due("25: not with what was heard", x.hear(1, 1, 0), false);
        due("25: with what was heard", x.hear(1, 0, 1), true);
        due("6: tests heard", x.has(6), 2);
        due("35: refused", x.status(2), 10);
        x = Checks.made("kind a love 0 wit 0 true 1 false 1;test t harm 1;first 1;");
        due("25: a WEIGHT of 1 is left", x.hear(0, 1, 0), true);
        due("14: a WEIGHT of 1", x.odds(0), 1000000);
        due("25: no KIND, no WORLD", Checks.made("test t harm 1;").hear(0, 1, 0), false);
    }

    private static void looking() {
        KingsTest x = Checks.made(TWO + "mark n true 1 false 9;");
        due("10: mark(0, 2)", x.mark(0, 2), 0);
        due("26: look", x.look(0, 0, 1), true);
        due("10: seen", x.mark(0, 2), 2);
        due("10: not looked for", x.mark(0, 3), 0);
        due("26: look", x.look(0, 1, 0), true);
        due("10: not seen", x.mark(0, 3), 1);
        due("6: MARKS looked for", x.has(7), 2);
        due("26: look", x.look(1, 1, 1), true);
        due("10: mark(1, 3)", x.mark(1, 3), 2);
        due("10: mark(1, 2)", x.mark(1, 2), 0);
        due("6: MARKS looked for", x.has(7), 3);
        due("6: ACTS", x.has(10), 3);
        due("26: it was", x.look(0, 0, 1), false);
        due("26: it was", x.look(0, 1, 1), false);
        due("26: none such", x.look(2, 0, 0), false);
        due("26: none such", x.look(-1, 0, 0), false);
        due("26: none such", x.look(1, 2, 0), false);
        due("26: none such", x.look(1, -1, 0), false);
        due("26: others", x.look(1, 0, 2), false);
        due("26: others", x.look(1, 0, -1), false);
        due("35: refused", x.status(2), 8);
        due("6: ACTS", x.has(10), 3);
        due("26: without a WORLD", Checks.made("mark m true 1 false 1;").look(0, 1, 0), true);
    }

    private static void judging() {
        KingsTest x = Checks.made(TWO);
        x.hear(0, 1, 0);
        x.hear(1, 0, 1);
        x.look(0, 0, 1);
        due("27: judge(2)", x.judge(2), -1);
        due("27: judge(-1)", x.judge(-1), -1);
        due("35: refused", x.status(2), 2);
        due("27: judge(1)", x.judge(1), 1);
        due("6: cases", x.has(4), 1);
        due("6: harm", x.has(5), 25);
        due("6: nothing heard", x.has(6), 0);
        due("6: nothing looked for", x.has(7), 0);
        due("9: HEARD", x.test(0, 1), 1);
        due("9: HEARD", x.test(1, 1), 1);
        due("9: not in this case", x.test(0, 2), 0);
        due("10: not in this case", x.mark(0, 2), 0);
        due("14: odds as at first", x.odds(0), 600000);
        x.hear(1, 0, 1);
        due("27: judge(0)", x.judge(0), 2);
        due("9: HEARD", x.test(0, 1), 1);
        due("9: HEARD", x.test(1, 1), 2);
        due("6: harm", x.has(5), 45);
        due("6: told as KEPT", x.has(8), 2);
        int[][] rows = {{1, 25, 2, 2}, {0, 20, 1, 2}};
        for (int i = 0; i < 8; i++) {
            due("12: kept(" + i / 4 + ", " + i % 4 + ")", x.kept(i / 4, i % 4), rows[i / 4][i % 4]);
        }
        due("12: kept(2, 0)", x.kept(2, 0), -1);
        due("12: kept(-1, 0)", x.kept(-1, 0), -1);
        due("12: kept(0, 4)", x.kept(0, 4), -1);
        due("12: kept(0, -1)", x.kept(0, -1), -1);
    }

    private static void mostOfAll() {
        KingsTest x = Checks.made("kind a love 9 wit 0 true 2 false 1;test t harm 5;");
        // 9998 cases, 9997 harm, 99 times HEARD, just 0 has yielded now
        due("34: on", Checks.onChecked(x, 39, 14, 39, 13, 99, 2), true);
        due("27: judge", x.judge(0), 9999);
        due("6: harm, 9999 at most", x.has(5), 9999);
        due("9: HEARD, 99 at most", x.test(0, 1), 99);
        due("12: harm done in it", x.kept(0, 1), 5);
        due("27: there were 9999", x.judge(0), -1);
        due("35: refused", x.status(2), 1);
        due("28: beyond 9999", x.chance(1), -1);
        x.undo();
        due("6: cases", x.has(4), 9998);
        due("6: harm", x.has(5), 9997);
        due("28: beyond 9999", x.chance(2), -1);
        due("28: to 9999", x.chance(1), 1);
        due("6: cases", x.has(4), 9999);
        due("35: refused", x.status(3), 2);
    }

    private static void keeping() {
        KingsTest x = Checks.made(TWO);
        for (int i = 0; i < 45; i++) {
            due("27: judge", x.judge(i % 3 == 0 ? 1 : 0), i + 1);
            due("6: the last 40 are told", x.has(8), Math.min(40, i + 1));
        }
        for (int k = 0; k < 40; k++) {
            due("12: kept(" + k + ", 0)", x.kept(k, 0), (k + 5) % 3 == 0 ? 1 : 0);
        }
        due("12: kept(40, 0)", x.kept(40, 0), -1);
        x.undo();
        x.undo();
        due("6: the last 40 are told", x.has(8), 40);
        for (int k = 0; k < 40; k++) {
            due("12: undone, kept(" + k + ", 0)", x.kept(k, 0), (k + 3) % 3 == 0 ? 1 : 0);
        }
        for (int i = 0; i < 19; i++) {
            x.chance(30);
        }
        due("6: cases", x.has(4), 43 + 570);
        while (x.undo()) {
            due("29: cases", x.has(4) <= 43 + 570 ? 1 : 0, 1);
        }
        due("6: 20 ACTS are undone", x.has(4), 42);
        for (int k = 0; k < 40; k++) {
            due("12: undone, kept(" + k + ", 0)", x.kept(k, 0), (k + 2) % 3 == 0 ? 1 : 0);
            due("12: undone, kept(" + k + ", 3)", x.kept(k, 3), 2);
        }
    }

    private static void bySeed() {
        KingsTest x = Checks.made(DEAR);
        due("18: best()", x.best(), 1);
        due("25: hear", x.hear(1, 0, 1), true);
        x.look(0, 0, 1);
        due("28: chance(12)", x.chance(12), 11);
        due("6: ACTS", x.has(10), 3);
        due("6: cases", x.has(4), 12);
        due("6: harm, none of what was heard ahead of it", x.has(5), 60);
        due("9: HEARD, none of what was heard ahead of it", x.test(0, 1), 12);
        due("9: HEARD", x.test(1, 1), 0);
        due("6: nothing heard", x.has(6), 0);
        due("6: nothing looked for", x.has(7), 0);
        // by the DRAWS from seed 1: judged for whom; the sixth is wrong
        int[] whom = {0, 1, 1, 0, 0, 0, 0, 0, 1, 0, 0, 0};
        for (int k = 0; k < 12; k++) {
            due("12: kept(" + k + ", 0)", x.kept(k, 0), whom[k]);
            due("12: kept(" + k + ", 1)", x.kept(k, 1), 5);
            due("12: kept(" + k + ", 2)", x.kept(k, 2), 1);
            due("12: kept(" + k + ", 3)", x.kept(k, 3), k == 5 ? 0 : 1);
        }
        x = Checks.made(DEAR);
        due("28: five", x.chance(5), 5);
        due("28: the sixth", x.chance(1), 0);
        due("28: two more", x.chance(2), 2);
        due("12: kept(5, 3)", x.kept(5, 3), 0);
        due("6: cases", x.has(4), 8);
    }

    private static void bySeedWithAnswers() {
        KingsTest x = Checks.made("kind a love 9 wit 0 true 2 false 1;kind b love 1 wit 0 true 1 false 3;test t harm 5;price 0;"
            + "yields truth=1 and love>5 or truth=0 and love<5;");
        // just 0: 100 to 150; both: 300 each; none: 50 each; just 1: 150 to 100
        due("17: merit(1)", x.merit(1), 541666);
        due("18: best()", x.best(), 1);
        dueCases(x, 0, 1, 0, 0, 0, 0, 0, 1, 1, 1, 1, 1, 0, 1, 0, 1, 0, 0, 0, 1, 1, 0, 0, 1, 1, 1, 1, 1);
    }

    private static void dueCases(KingsTest x, int... whomAndRight) {
        int n = whomAndRight.length / 2;
        int right = 0;
        for (int k = 0; k < n; k++) {
            right += whomAndRight[2 * k + 1];
        }
        int before = x.has(8);
        due("28: chance(" + n + ")", x.chance(n), right);
        for (int k = 0; k < n; k++) {
            due("30: for whom", x.kept(before + k, 0), whomAndRight[2 * k]);
            due("30: right", x.kept(before + k, 3), whomAndRight[2 * k + 1]);
        }
    }

    private static void seedAlone() {
        KingsTest x = Checks.made(DEAR);
        due("30: seed(12345)", x.seed(12345), true);
        dueCases(x, 0, 1, 0, 1, 0, 1, 1, 1, 0, 1, 0, 1, 1, 1, 1, 1);
        due("30: seed(-1)", x.seed(-1), false);
        due("30: seed(least)", x.seed(Integer.MIN_VALUE), false);
        due("35: refused", x.status(5), 2);
        due("30: seed(most)", x.seed(Integer.MAX_VALUE), true);
        dueCases(x, 1, 1, 0, 0, 1, 1, 0, 1);
        due("30: seed(0)", x.seed(0), true);
        dueCases(x, 1, 1, 0, 1, 0, 0, 0, 1);
        due("30: no ACT", x.has(10), 3);
        x.seed(12345);
        due("28: chance(1)", x.chance(1), 1);
        x.undo();
        due("29: the seed stays", x.chance(2), 2);
        x.undo();
        dueCases(x, 1, 1, 0, 1);
        x.seed(12345);
        Checks.court(x, DEAR);
        dueCases(x, 0, 1, 0, 1, 0, 1, 1, 1);
    }

    private static void noSuchCase() {
        KingsTest x = new KingsTest();
        due("28: no KIND", x.chance(3), 0);
        due("6: no case", x.has(4), 0);
        due("6: but an ACT", x.has(10), 1);
        // each took one DRAW: of DRAWS 18, 93, 49, .. the fourth is the next one's first
        long seed = 1;
        for (int i = 0; i < 3; i++) {
            seed = (1103515245L * seed + 12345) % (1L << 31);
        }
        dueSame(x, (int) seed, "28: one DRAW each, none of a KIND");
        x = Checks.made("kind a love 0 wit 0 true 1 false 0;first 50;test t harm 1;");
        x.hear(0, 1, 0);
        due("28: nobody is false", x.chance(1), 0);
        due("6: no case", x.has(4), 0);
        // 18 is below 50: 0 is true, its KIND is drawn, that of 1 can't be
        seed = 1;
        for (int i = 0; i < 2; i++) {
            seed = (1103515245L * seed + 12345) % (1L << 31);
        }
        dueSame(x, (int) seed, "28: a DRAW of 100, one of the KIND of 0");
        x = Checks.made("kind a love 0 wit 0 true 0 false 1;first 50;test t harm 1;");
        x.look(0, 0, 0);
        due("28: nobody is true", x.chance(1), 0);
        dueSame(x, 1103527590, "28: a DRAW of 100 alone");
    }

    // by what comes next the seeds are told apart
    private static void dueSame(KingsTest x, int seed, String what) {
        KingsTest other = Checks.made(DEAR);
        other.seed(seed);
        Checks.court(x, DEAR);
        x.chance(30);
        other.chance(30);
        for (int k = 0; k < 30; k++) {
            due(what + ", kept(" + k + ", 0)", x.kept(k, 0), other.kept(k, 0));
            due(what + ", kept(" + k + ", 3)", x.kept(k, 3), other.kept(k, 3));
        }
    }

    private static void notBySeed() {
        KingsTest x = Checks.made(DEAR);
        x.hear(0, 1, 0);
        due("28: chance(0)", x.chance(0), -1);
        due("28: chance(-1)", x.chance(-1), -1);
        due("28: chance(31)", x.chance(31), -1);
        due("28: chance(most)", x.chance(Integer.MAX_VALUE), -1);
        due("35: refused", x.status(3), 4);
        due("6: heard stays", x.has(6), 1);
        due("6: ACTS", x.has(10), 1);
        due("28: chance(30)", x.chance(30) > 0 ? 1 : 0, 1);
        due("6: cases", x.has(4), 30);
    }

    private static void likeOnes() {
        KingsTest x = Checks.made("kind a love 0 wit 0 true 1 false 1;");
        int right = x.chance(20);
        for (int k = 0; k < 20; k++) {
            due("28: of like ones 0", x.kept(k, 0), 0);
            due("12: no test", x.kept(k, 2), 0);
            right -= x.kept(k, 3);
        }
        due("28: as many were right", right, 0);
        x = Checks.made("kind a love 0 wit 0 true 1 false 1;first 49;");
        x.chance(2);
        due("28: 1 is more likely", x.kept(0, 0), 1);
        due("28: 18 is below 49, so 0 was true", x.kept(0, 3), 0);
    }

    private static void undoing() {
        KingsTest x = Checks.made(TWO);
        due("29: none", x.undo(), false);
        due("35: refused", x.status(4), 1);
        x.hear(0, 1, 0);
        x.look(0, 1, 1);
        x.judge(0);
        x.chance(3);
        due("29: chance", x.undo(), true);
        due("6: cases", x.has(4), 1);
        due("6: KEPT", x.has(8), 1);
        due("6: harm", x.has(5), 5);
        due("9: HEARD", x.test(1, 1), 0);
        due("29: judge", x.undo(), true);
        due("6: cases", x.has(4), 0);
        due("6: KEPT", x.has(8), 0);
        due("12: kept", x.kept(0, 0), -1);
        due("6: harm", x.has(5), 0);
        due("9: HEARD", x.test(0, 1), 0);
        due("9: heard again", x.test(0, 2), 2);
        due("10: seen again", x.mark(0, 3), 2);
        due("29: look", x.undo(), true);
        due("10: not looked for", x.mark(0, 3), 0);
        due("29: hear", x.undo(), true);
        due("9: not heard", x.test(0, 2), 0);
        due("29: none", x.undo(), false);
        due("35: refused", x.status(4), 2);
        x.judge(1);
        due("29: judge again", x.undo(), true);
        due("29: none", x.undo(), false);
    }

    private static void undoingMany() {
        KingsTest x = Checks.made(TWO);
        for (int i = 0; i < 33; i++) {
            x.judge(0);
            due("6: ACTS that can be undone", x.has(10), Math.min(20, i + 1));
        }
        for (int i = 0; i < 12; i++) {
            due("29: undo", x.undo(), true);
        }
        due("6: cases", x.has(4), 21);
        due("6: ACTS that can be undone", x.has(10), 8);
        x.hear(0, 0, 0);
        for (int i = 0; i < 9; i++) {
            due("29: undo", x.undo(), true);
        }
        due("29: the last 20 alone", x.undo(), false);
        due("6: cases", x.has(4), 13);
        x.judge(1);
        Checks.onChecked(x, 0, 3, 0, 0, 0, 0, 0, 0, 0, 0);
        due("29: none behind an image", x.undo(), false);
        x.judge(1);
        Checks.court(x, TWO);
        due("29: none behind a court", x.undo(), false);
    }
}
