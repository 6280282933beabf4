/** Terms II and promises 12, 28, 30: what is KEPT, cases by the seed, at each boundary and just beyond. */
public final class SeedEdgesTest {
    private static final String A = "kind a love 9 wit 0 true 1 false 1;";
    private static final String SIX = Edges.each(6, "kind # love 1 wit 1 true 1 false 1;") + Edges.each(6, "test t# harm 1;")
        + Edges.each(5, "mark m# true 1 false 9;");

    public static void main(String[] args) {
        keptAtMost();
        keptOfMany();
        keptBehindMany();
        toTheLastCall();
        keptOfNone();
        keptOfEachCase();
        chanceOfNone();
        chanceToTheLast();
        chanceForgets();
        chanceIsOneAct();
        belowFirst();
        drawsByTheSeed();
        drawsOfSix();
        noSuchCase();
        likeOnes();
        seedsOfNone();
        seedsThereAre();
        Checks.finish();
    }

    // "the last 40 are told"
    private static void keptAtMost() {
        KingsTest x = Checks.made(A + Edges.each(3, "test t# harm 1;"));
        for (int n = 1; n <= 42; n++) {
            x.judge(n & 1);
            Checks.due("6: told behind " + n, x.has(8), Math.min(40, n));
            int oldest = Math.max(1, n - 39);
            Checks.due("12: the oldest told", x.kept(0, 0), oldest & 1);
            Checks.due("12: the latest told", x.kept(Math.min(40, n) - 1, 0), n & 1);
            Checks.due("12: behind it", x.kept(Math.min(40, n), 0), -1);
        }
        Checks.due("12: kept(39, 0)", x.kept(39, 0), 0);
        Checks.due("12: kept(40, 0)", x.kept(40, 0), -1);
        x.undo();
        Checks.due("6: told of 41", x.has(8), 40);
        Checks.due("12: the oldest of 41", x.kept(0, 0), 0);
        x.undo();
        x.undo();
        Checks.due("6: told of 39", x.has(8), 39);
        Checks.due("12: the oldest of 39", x.kept(0, 0), 1);
        Checks.due("12: behind the latest of 39", x.kept(39, 0), -1);
    }

    // the last 40 of more than a thousand cases
    private static void keptOfMany() {
        KingsTest x = Checks.made(A);
        for (int i = 0; i < 33; i++) {
            x.chance(30);
        }
        for (int i = 0; i < 80; i++) {
            x.judge(i % 3 == 0 ? 1 : 0);
            Checks.due("6: told of " + (991 + i), x.has(8), 40);
            Checks.due("12: the latest of " + (991 + i), x.kept(39, 0), i % 3 == 0 ? 1 : 0);
            Checks.due("12: the oldest of " + (991 + i), x.kept(0, 3) == 2, i >= 39);
        }
        for (int k = 0; k < 40; k++) {
            Checks.due("12: kept(" + k + ", 0)", x.kept(k, 0), (k + 40) % 3 == 0 ? 1 : 0);
        }
    }

    // and those ahead of 20 ACTS of 30 cases each, when these are undone
    private static void keptBehindMany() {
        KingsTest x = Checks.made(A);
        for (int i = 0; i < 34; i++) {
            x.chance(30);
        }
        for (int i = 0; i < 40; i++) {
            x.judge(i % 3 == 0 ? 1 : 0);
        }
        for (int i = 0; i < 20; i++) {
            x.chance(30);
            Checks.due("12: by the seed", x.kept(39, 3) < 2, true);
        }
        Checks.due("6: cases", x.has(4), 1020 + 40 + 600);
        for (int i = 0; i < 20; i++) {
            x.undo();
        }
        Checks.due("6: cases", x.has(4), 1020 + 40);
        Checks.due("6: told as KEPT", x.has(8), 40);
        for (int k = 0; k < 40; k++) {
            Checks.due("12: undone, kept(" + k + ", 0)", x.kept(k, 0), k % 3 == 0 ? 1 : 0);
            Checks.due("12: undone, kept(" + k + ", 3)", x.kept(k, 3), 2);
        }
    }

    // "at most 512 calls after it has been made": the dearest one as often as there may be calls
    private static void toTheLastCall() {
        KingsTest x = Checks.made(SIX);
        int calls = 2 + (SIX.length() + 19) / 20 + 1;
        int cases = 0;
        int refused = 0;
        for (; calls < 510; calls++) {
            boolean can = cases + 30 <= 9999;
            Checks.due("28: chance(30) at " + cases, x.chance(30) >= 0, can);
            cases += can ? 30 : 0;
            refused += can ? 0 : 1;
        }
        Checks.due("6: cases", x.has(4), 9990);
        Checks.due("35: refused", x.status(3), refused);
    }

    // "NONE when there is none such, or for others"
    private static void keptOfNone() {
        for (int k : new int[] {-1, 3, 40, Integer.MIN_VALUE, Integer.MAX_VALUE}) {
            Edges.dueNone("12: kept(" + k + ", 0)", Edges::rich, x -> x.kept(k, 0), -1);
        }
        for (int what : new int[] {-1, 4, Integer.MIN_VALUE, Integer.MAX_VALUE}) {
            Edges.dueNone("12: kept(0, " + what + ")", Edges::rich, x -> x.kept(0, what), -1);
            Edges.dueNone("12: kept(2, " + what + ")", Edges::rich, x -> x.kept(2, what), -1);
        }
        Checks.due("12: none is KEPT", new KingsTest().kept(0, 0), -1);
        KingsTest x = Edges.imaged(A, 0, 7, 0, 0);
        Checks.due("12: nothing is KEPT behind an image", x.kept(0, 0), -1);
        x.judge(1);
        Checks.due("12: one is", x.kept(0, 0), 1);
        Checks.due("12: one is", x.kept(1, 0), -1);
    }

    // "for whom it was judged, harm done in it, how many tests, 1 right, 0 wrong (by the seed), 2 not known"
    private static void keptOfEachCase() {
        KingsTest x = Checks.made(SIX.replace("harm 1", "harm 7"));
        for (int tests = 0; tests <= 6; tests++) {
            for (int test = 0; test < tests; test++) {
                x.hear(test, 0, 1);
            }
            x.judge(tests & 1);
            int[] row = {tests & 1, 7 * tests, tests, 2};
            for (int what = 0; what < 4; what++) {
                Checks.due("12: kept(" + tests + ", " + what + ")", x.kept(tests, what), row[what]);
            }
        }
    }

    private static void dueNoChance(String why, Edges.Made made, int n) {
        Edges.dueRefused("28: " + why + ", chance(" + n + ")", made, x -> x.chance(n), -1, 3);
    }

    // "(1 .. 30)", "NONE, refused (3), when it can't be": nothing is forgotten then
    private static void chanceOfNone() {
        for (int n : new int[] {0, -1, 31, 32, 9999, Integer.MIN_VALUE, Integer.MAX_VALUE}) {
            dueNoChance("how many", Edges::rich, n);
        }
        KingsTest x = Edges.rich();
        Checks.due("28: chance(1)", x.chance(1) >= 0, true);
        Checks.due("6: cases", x.has(4), 4);
        Checks.due("28: chance(30)", x.chance(30) >= 0, true);
        Checks.due("6: cases", x.has(4), 34);
        Checks.due("35: no refusal", x.status(3), 0);
    }

    // "(beyond 9999 cases, if all were judged)"
    private static void chanceToTheLast() {
        for (int n : new int[] {1, 2, 29, 30}) {
            int before = 9999 - n;
            KingsTest x = Edges.imaged(A, before >> 8, before & 255, 0, 0);
            Checks.due("28: to 9999", x.chance(n) >= 0, true);
            Checks.due("6: cases", x.has(4), 9999);
            dueNoChance("beyond 9999", () -> Edges.imaged(A, before + 1 >> 8, before + 1 & 255, 0, 0), n);
            // none would be judged here, but if all were
            dueNoChance("beyond 9999, without KINDS", () -> Edges.imaged("", before + 1 >> 8, before + 1 & 255, 0, 0), n);
            x = Edges.imaged("", before >> 8, before & 255, 0, 0);
            Checks.due("28: none is judged", x.chance(n), 0);
            Checks.due("6: cases", x.has(4), before);
        }
        dueNoChance("there were 9999", () -> Edges.imaged(A, 39, 15, 0, 0), 1);
    }

    // "(what is heard, looked for in this case is forgotten ahead of it, does no harm, is HEARD in no case more)"
    private static void chanceForgets() {
        String court = A + "test t harm 7;test u harm 3;mark m true 9 false 1;yields harm=3 and truth=1;price 0;";
        KingsTest x = Checks.made(court);
        x.hear(0, 0, 0);
        x.look(0, 0, 1);
        x.look(0, 1, 0);
        x.chance(1);
        Checks.due("28: HEARD in no case more", x.test(0, 1), 0);
        Checks.due("28: not heard", x.test(0, 2), 0);
        Checks.due("28: not looked for", x.mark(0, 2) + x.mark(0, 3), 0);
        Checks.due("28: does no harm", x.has(5), 3);
        Checks.due("12: harm of the case", x.kept(0, 1), 3);
        Checks.due("12: tests of the case", x.kept(0, 2), 1);
        Checks.due("9: the BEST SET is HEARD", x.test(1, 1), 1);
        x.undo();
        Checks.due("29: heard again", x.test(0, 2), 1);
        Checks.due("29: seen again", x.mark(0, 2) * 10 + x.mark(0, 3), 21);
        // where no case comes it is forgotten, too
        x = Checks.made("kind a love 1 wit 1 true 0 false 0;mark m true 1 false 1;");
        x.look(0, 0, 1);
        Checks.due("28: no case comes", x.chance(30), 0);
        Checks.due("28: not looked for", x.mark(0, 2), 0);
        Checks.due("6: no case", x.has(4) + x.has(8), 0);
        x.undo();
        Checks.due("29: seen again", x.mark(0, 2), 2);
    }

    // "n CASES by the seed (1 .. 30), one ACT"
    private static void chanceIsOneAct() {
        KingsTest x = Checks.made(A);
        for (int i = 0; i < 21; i++) {
            x.chance(30);
            Checks.due("6: ACTS", x.has(10), Math.min(20, i + 1));
            Checks.due("6: cases", x.has(4), 30 * i + 30);
            Checks.due("6: told as KEPT", x.has(8), Math.min(40, 30 * i + 30));
        }
        for (int i = 0; i < 20; i++) {
            Checks.due("29: undo", x.undo(), true);
            Checks.due("6: cases", x.has(4), 630 - 30 * i - 30);
        }
        Checks.due("29: no more", x.undo(), false);
        Checks.due("6: told as KEPT", x.has(8), 30);
    }

    private static int draw(long drawn, int m) {
        return (int) (drawn / 64 % m);
    }

    // "a DRAW of 100 (below first: 0 is true)": the DRAW, and one above it
    private static void belowFirst() {
        int least = 0;
        for (int seed = 0; seed < 60; seed++) {
            int drawn = draw(Edges.drawn(seed), 100);
            for (int first = Math.max(1, drawn); first <= Math.min(99, drawn + 1); first++) {
                least += first == drawn ? 1 : 0;
                KingsTest x = Checks.made(A + "first " + first + ";");
                x.seed(seed);
                int judged = first >= 50 ? 0 : 1;
                int truth = drawn < first ? 0 : 1;
                Checks.due("28: seed " + seed + ", first " + first, x.chance(1), judged == truth ? 1 : 0);
                Checks.due("12: for whom", x.kept(0, 0), judged);
                Checks.due("12: right", x.kept(0, 3), judged == truth ? 1 : 0);
            }
        }
        Checks.due("28: some DRAWS are first itself", least > 50, true);
    }

    // by the document's words: three DRAWS, the KIND of each by how often one is of it
    private static void dueCase(KingsTest x, long seed, int[] often) {
        int harm = x.has(5);
        int test = Integer.numberOfTrailingZeros(x.best());
        int times = x.test(test, 1);
        long drawn = Edges.drawn(seed);
        int truth = draw(drawn, 100) < 50 ? 0 : 1;
        int[] kinds = new int[2];
        for (int claimant = 0; claimant < 2; claimant++) {
            drawn = Edges.drawn(drawn);
            int from = claimant == truth ? 0 : 2;
            kinds[claimant] = draw(drawn, often[from] + often[from + 1]) < often[from] ? 0 : 1;
        }
        // one of KIND 0 yields, so just 0 or just 1 of them: whoever yields is more likely true
        boolean alike = kinds[0] == kinds[1];
        int judged = alike ? 0 : kinds[0] == 0 ? 0 : 1;
        Checks.due("28: seed " + seed, x.chance(1), judged == truth ? 1 : 0);
        Checks.due("12: for whom by seed " + seed, x.kept(0, 0), judged);
        Checks.due("12: right by seed " + seed, x.kept(0, 3), judged == truth ? 1 : 0);
        Checks.due("12: one test by seed " + seed, x.kept(0, 2), 1);
        Checks.due("12: its harm by seed " + seed, x.kept(0, 1), x.test(test, 0));
        Checks.due("6: its harm by seed " + seed, x.has(5), harm + x.test(test, 0));
        Checks.due("9: HEARD by seed " + seed, x.test(test, 1), times + 1);
    }

    // "x (the seed) becomes (1103515245 x + 12345) mod 2 to the 31; floor(x / 64) mod m"
    private static void drawsByTheSeed() {
        KingsTest x = Checks.made("kind a love 9 wit 0 true 7 false 2;kind b love 1 wit 0 true 3 false 8;test t harm 0;"
            + "price 0;yields love>5;");
        Checks.due("18: the test is heard", x.best(), 1);
        int[] often = {7, 3, 2, 8};
        int[] seeds = {0, 1, 2, 63, 64, 65535, 65536, 1 << 30, Integer.MAX_VALUE - 1, Integer.MAX_VALUE};
        for (int i = 0; i < 40; i++) {
            int seed = i < seeds.length ? seeds[i] : i * 53687091 + 7;
            Checks.due("30: seed(" + seed + ")", x.seed(seed), true);
            dueCase(x, seed, often);
            x.undo();
        }
        // the BEST SET is each of six tests once
        for (int test = 0; test < 6; test++) {
            String name = "t" + (char) ('a' + test);
            String tests = Edges.each(6, "test t# harm 1;").replace(name + " harm 1", name + " harm 2");
            x = Checks.made("kind a love 9 wit 0 true 7 false 2;kind b love 1 wit 0 true 3 false 8;" + tests
                + "price 0;yields harm=2 and love>5;");
            Checks.due("18: the test is heard", x.best(), 1 << test);
            for (int i = 0; i < 12; i++) {
                x.seed(i * 178956970);
                dueCase(x, i * 178956970, often);
                x.undo();
            }
        }
    }

    // the first and the last of six KINDS are drawn, too; those that nobody true is of are not
    private static void drawsOfSix() {
        int[] often = {1, 0, 2, 3, 0, 1};
        StringBuilder kinds = new StringBuilder();
        for (int kind = 0; kind < 6; kind++) {
            kinds.append("kind ").append((char) ('a' + kind)).append(" love ").append(kind).append(" wit 0 true ");
            kinds.append(often[kind]).append(" false 1;");
        }
        for (int kind = 0; kind < 6; kind++) {
            int seen = 0;
            for (int i = 0; i < 40; i++) {
                int seed = i * 53687091;
                // just 1 yields if it is true and of this KIND; else nobody does or 0, and it is judged for 0
                KingsTest x = Checks.made(kinds + "test t harm 1;price 0;yields truth=1 and love=" + kind + ";");
                x.seed(seed);
                long drawn = Edges.drawn(seed);
                int truth = draw(drawn, 100) < 50 ? 0 : 1;
                drawn = Edges.drawn(Edges.drawn(drawn));
                boolean is = truth == 1 && kindOf(draw(drawn, 7), often) == kind;
                seen += is ? 1 : 0;
                x.chance(1);
                Checks.due("28: KIND " + kind + " by seed " + seed, x.kept(0, 0), is ? 1 : 0);
            }
            Checks.due("28: KIND " + kind + " is drawn", seen > 0, often[kind] > 0);
        }
    }

    private static int kindOf(int drawn, int[] often) {
        int[] kinds = new int[7];
        int count = 0;
        for (int kind = 0; kind < often.length; kind++) {
            for (int i = 0; i < often[kind]; i++) {
                kinds[count++] = kind;
            }
        }
        return kinds[drawn];
    }

    // "(if that is 0 of one of them, ahead of its DRAW, there is no such case, the next one comes)"
    private static void noSuchCase() {
        dueDraws("kind a love 1 wit 1 true 0 false 0;", 1, 1);
        dueDraws("", 1, 1);
        // 0 is true in all but one of 100: nobody true, so one DRAW; nobody false, so two
        dueDraws("kind a love 1 wit 1 true 0 false 9;first 99;", 1, 2);
        dueDraws("kind a love 1 wit 1 true 9 false 0;first 99;", 2, 1);
        dueDraws("kind a love 1 wit 1 true 0 false 9;first 1;", 1, 2);
        dueDraws("kind a love 1 wit 1 true 9 false 0;first 1;", 2, 1);
        KingsTest x = Checks.made("kind a love 1 wit 1 true 9 false 0;kind b love 1 wit 1 true 0 false 1;");
        Checks.due("28: one of each is enough", x.chance(30) >= 0, true);
        Checks.due("6: cases", x.has(4), 30);
    }

    // how many DRAWS a case takes that does not come: what comes next tells it
    private static void dueDraws(String court, int whenZeroIsTrue, int whenOneIs) {
        int first = court.contains("first 1;") ? 1 : court.contains("first 99;") ? 99 : 50;
        for (int n = 1; n <= 30; n += 7) {
            KingsTest x = Checks.made(court);
            long drawn = 4711;
            x.seed(4711);
            for (int i = 0; i < n; i++) {
                drawn = Edges.drawn(drawn);
                boolean zero = draw(drawn, 100) < first;
                int draws = zero ? whenZeroIsTrue : whenOneIs;
                drawn = draws == 2 ? Edges.drawn(drawn) : drawn;
            }
            Checks.due("28: chance(" + n + ")", x.chance(n), 0);
            Checks.due("6: no cases", x.has(4), 0);
            Checks.due("6: none KEPT", x.has(8), 0);
            Checks.due("6: one ACT", x.has(10), 1);
            dueNextCases(x, (int) drawn);
        }
    }

    private static void dueNextCases(KingsTest x, int seed) {
        String court = "kind a love 9 wit 0 true 7 false 2;kind b love 1 wit 0 true 3 false 8;first 50;test t harm 0;yields love>5;";
        KingsTest twin = Checks.made(court);
        twin.seed(seed);
        Checks.court(x, court);
        Checks.due("28: the DRAWS go on", x.chance(30), twin.chance(30));
        for (int k = 0; k < 30; k++) {
            Checks.due("28: the DRAWS go on, kept(" + k + ", 0)", x.kept(k, 0), twin.kept(k, 0));
            Checks.due("28: the DRAWS go on, kept(" + k + ", 3)", x.kept(k, 3), twin.kept(k, 3));
        }
    }

    // "JUDGED for who is more likely then (of like ones 0)"
    private static void likeOnes() {
        for (int first = 49; first <= 51; first++) {
            KingsTest x = Checks.made(A + "first " + first + ";");
            x.chance(5);
            for (int k = 0; k < 5; k++) {
                Checks.due("28: first " + first, x.kept(k, 0), first < 50 ? 1 : 0);
            }
        }
        // like ones behind what is heard: both are of one KIND, by three in four true ones, one in two false ones
        KingsTest x = Checks.made("kind a love 9 wit 0 true 3 false 1;kind b love 1 wit 0 true 1 false 1;test t harm 0;"
            + "price 0;yields love>5;");
        for (int how = 1; how <= 4; how += 3) {
            Checks.due("34: on", Checks.onChecked(x, 0, 0, 0, 0, 0, how), true);
            Checks.due("14: like ones", x.odds(0), 500000);
        }
        Checks.onChecked(x, 0, 0, 0, 0, 0, 0);
        int[] often = {3, 1, 1, 1};
        for (int i = 0; i < 30; i++) {
            x.seed(i * 71582788);
            dueCase(x, i * 71582788, often);
            x.undo();
        }
    }

    // "false, refused (5), when it is below 0"
    private static void seedsOfNone() {
        for (int seed : new int[] {-1, -2, -12345, Integer.MIN_VALUE, Integer.MIN_VALUE + 1}) {
            Edges.dueRefused("30: seed(" + seed + ")", Edges::rich, x -> Edges.bit(x.seed(seed)), 0, 5);
        }
    }

    // "(It is 1 at first.)"; "0"
    private static void seedsThereAre() {
        String court = "kind a love 9 wit 0 true 7 false 2;kind b love 1 wit 0 true 3 false 8;test t harm 0;price 0;yields love>5;";
        KingsTest x = Checks.made(court);
        dueCase(x, 1, new int[] {7, 3, 2, 8});
        for (int seed : new int[] {0, 1, Integer.MAX_VALUE}) {
            x = Edges.rich();
            Checks.due("30: seed(" + seed + ")", x.seed(seed), true);
            Checks.due("30: no ACT", x.has(10), 5);
            Checks.due("35: no refusal", x.status(5), 0);
        }
        Edges.dueNone("30: the seed as it is", () -> seeded(77), y -> Edges.bit(y.seed(77)), 1);
    }

    private static KingsTest seeded(int seed) {
        KingsTest x = Checks.made(Edges.TWO);
        x.seed(seed);
        return x;
    }
}
