/** Promises 32 to 35: images, refusals. */
public final class ImageTest {
    private static final String TWO = "kind a love 9 wit 0 true 2 false 1;kind b love 1 wit 0 true 1 false 3;test t harm 5;"
        + "test u harm 20;mark m true 8 false 3;first 60;yields truth=1 and love>harm or truth=0 and harm>10;";

    public static void main(String[] args) {
        written();
        latest();
        turnedOn();
        mostOfEach();
        notAnImage();
        refusals();
        Checks.finish();
    }

    private static void due(String call, long got, long want) {
        Checks.due(call, got, want);
    }

    private static void dueImage(KingsTest x, int... octets) {
        due("32: image()", x.image(), octets.length + 1);
        int check = 61;
        for (int k = 0; k < octets.length; k++) {
            due("33: octet(" + k + ")", x.octet(k), octets[k]);
            check = (3 * check + octets[k]) % 251;
        }
        due("33: the last one", x.octet(octets.length), check);
        due("33: behind it", x.octet(octets.length + 1), -1);
        due("33: ahead of it", x.octet(-1), -1);
    }

    private static void written() {
        KingsTest x = new KingsTest();
        due("33: none yet", x.octet(0), -1);
        dueImage(x, 0, 0, 0, 0);
        due("32: 61 * 81 mod 251", x.octet(4), 172);
        x = Checks.made(TWO);
        dueImage(x, 0, 0, 0, 0, 0, 0, 0, 0, 0, 0);
        x.hear(0, 1, 0);
        x.judge(0);
        x.hear(1, 0, 1);
        x.hear(0, 0, 0);
        x.look(0, 0, 0);
        x.look(0, 1, 1);
        dueImage(x, 0, 1, 0, 5, 1, 1, 0, 3, 1, 2);
        Checks.onChecked(x, 0x12, 0x34, 0x21, 0x43, 50, 2, 60, 3, 2, 1);
        dueImage(x, 0x12, 0x34, 0x21, 0x43, 50, 2, 60, 3, 2, 1);
        StringBuilder text = new StringBuilder();
        for (char c = 'a'; c < 'g'; c++) {
            text.append("test t").append(c).append(" harm 1;");
            text.append(c == 'f' ? "" : "mark m" + c + " true 1 false 1;");
        }
        due("32: the longest", Checks.made(text.toString()).image(), 27);
    }

    private static void latest() {
        KingsTest x = Checks.made(TWO);
        x.image();
        x.judge(0);
        due("33: of the latest image()", x.octet(1), 0);
        x.image();
        due("33: of the latest image()", x.octet(1), 1);
        due("33: octet(11)", x.octet(11), -1);
        Checks.court(x, "");
        due("33: of the latest image(), still", x.octet(1), 1);
        due("32: no ACT", x.image(), 5);
        due("33: it is shorter", x.octet(5), -1);
    }

    private static void turnedOn() {
        KingsTest x = Checks.made(TWO);
        x.judge(0);
        x.seed(12345);
        Checks.tell(x, 0, 0, 1, 0);
        Checks.due("34: on", Checks.onChecked(x, 1, 2, 3, 4, 5, 2, 6, 0, 2, 0), true);
        due("6: cases", x.has(4), 258);
        due("6: harm", x.has(5), 772);
        due("6: tests heard", x.has(6), 1);
        due("6: MARKS looked for", x.has(7), 1);
        due("6: nothing is KEPT", x.has(8), 0);
        due("6: ANSWERED stays", x.has(9), 1);
        due("6: nothing can be undone", x.has(10), 0);
        due("9: HEARD", x.test(0, 1), 5);
        due("9: just 0", x.test(0, 2), 2);
        due("9: HEARD", x.test(1, 1), 6);
        due("9: not", x.test(1, 2), 0);
        due("10: seen", x.mark(0, 2), 2);
        due("10: not looked for", x.mark(0, 3), 0);
        due("14: by what was heard", x.odds(0), 1000000);
        due("34: the tape goes", x.feed(0, 0, 0, 0, 0), 20);
        due("27: judge", x.judge(0), 259);
        due("6: harm", x.has(5), 777);
        due("9: HEARD", x.test(0, 1), 6);
        due("6: KEPT", x.has(8), 1);
        Checks.due("34: no WORLD has WEIGHT", Checks.onChecked(x, 0, 0, 0, 0, 0, 4, 0, 0, 0, 0), true);
        due("14: odds", x.odds(0), -1);
        due("9: both", x.test(0, 2), 4);
        Checks.due("25: none would have then", x.hear(1, 1, 0), false);
        Checks.due("26: look", x.look(0, 1, 1), true);
        Checks.due("34: each way to be heard", Checks.onChecked(x, 0, 0, 0, 0, 0, 1, 0, 3, 1, 2), true);
        due("9: none", x.test(0, 2), 1);
        due("9: just 1", x.test(1, 2), 3);
        due("10: not seen", x.mark(0, 2), 1);
        due("10: seen", x.mark(0, 3), 2);
    }

    private static void mostOfEach() {
        KingsTest x = Checks.made(TWO);
        Checks.due("34: the most", Checks.onChecked(x, 39, 15, 39, 15, 99, 4, 99, 4, 2, 2), true);
        due("6: cases", x.has(4), 9999);
        due("6: harm", x.has(5), 9999);
        due("9: HEARD", x.test(1, 1), 99);
        int[][] beyond = {{39, 16, 0, 0, 0, 0, 0, 0, 0, 0}, {40, 0, 0, 0, 0, 0, 0, 0, 0, 0}, {0, 0, 39, 16, 0, 0, 0, 0, 0, 0},
            {0, 0, 255, 0, 0, 0, 0, 0, 0, 0}, {0, 0, 0, 0, 100, 0, 0, 0, 0, 0}, {0, 0, 0, 0, 0, 5, 0, 0, 0, 0},
            {0, 0, 0, 0, 0, 0, 100, 0, 0, 0}, {0, 0, 0, 0, 0, 0, 0, 5, 0, 0}, {0, 0, 0, 0, 0, 0, 0, 0, 3, 0},
            {0, 0, 0, 0, 0, 0, 0, 0, 0, 3}};
        for (int i = 0; i < beyond.length; i++) {
            Checks.due("34: beyond the most, " + i, Checks.onChecked(x, beyond[i]), false);
            due("6: all stays", x.has(4), 9999);
            due("35: refused", x.status(5), i + 1);
        }
    }

    private static void notAnImage() {
        KingsTest x = Checks.made(TWO);
        x.hear(0, 1, 0);
        x.judge(1);
        x.hear(0, 1, 0);
        Checks.due("34: none", Checks.on(x), false);
        Checks.due("34: none", Checks.on(x, 0), false);
        Checks.due("34: of another COURT", Checks.onChecked(x, 0, 0, 0, 0), false);
        Checks.due("34: too short", Checks.onChecked(x, 0, 0, 0, 0, 0, 0, 0, 0, 0), false);
        Checks.due("34: too long", Checks.onChecked(x, 0, 0, 0, 0, 0, 0, 0, 0, 0, 0, 0), false);
        Checks.due("34: the last byte is another", Checks.on(x, 0, 0, 0, 0, 0, 0, 0, 0, 0, 0, 0), false);
        due("34: the tape goes", x.feed(0, 0, 0, 0, 0), 20);
        due("35: refused", x.status(5), 6);
        due("6: cases stay", x.has(4), 1);
        due("6: harm stays", x.has(5), 5);
        due("6: tests heard stay", x.has(6), 1);
        due("6: KEPT stays", x.has(8), 1);
        due("6: ACTS stay", x.has(10), 3);
        x = new KingsTest();
        Checks.due("34: the last byte", Checks.on(x, 0, 0, 0, 0, 171), false);
        Checks.due("34: the last byte", Checks.on(x, 0, 0, 0, 0, 172), true);
    }

    private static void refusals() {
        KingsTest x = new KingsTest();
        for (int what = 0; what < 6; what++) {
            due("35: status(" + what + ") at first", x.status(what), 0);
        }
        x.end(-1);
        x.tell();
        x.judge(7);
        x.look(0, 0, 0);
        x.chance(0);
        x.undo();
        x.undo();
        x.undo();
        x.seed(-5);
        x.on();
        x.on();
        x.ask();
        x.kind(9, 9);
        int[] dues = {1, 1, 2, 1, 3, 3};
        for (int what = 0; what < 6; what++) {
            due("35: status(" + what + ")", x.status(what), dues[what]);
        }
        due("35: status(6)", x.status(6), -1);
        due("35: status(-1)", x.status(-1), -1);
        Checks.court(x, TWO);
        due("35: they stay behind a court", x.status(4), 3);
    }
}
