import java.nio.charset.StandardCharsets;

/** What the tests share: answers that are due, texts and bytes put on the tape. */
final class Checks {
    private static int wrong = 0;
    private static int asked = 0;

    private Checks() {
    }

    static void due(String call, long got, long want) {
        asked++;
        if (got != want) {
            wrong++;
            System.out.println(call + " answered " + got + ", due is " + want);
        }
    }

    static void due(String call, boolean got, boolean want) {
        due(call, got ? 1L : 0L, want ? 1L : 0L);
    }

    /** The tape holds these bytes alone. */
    static void put(KingsTest x, byte[] bytes) {
        x.end(0);
        for (int from = 0; from < bytes.length; from += 20) {
            int[] numbers = new int[5];
            for (int i = 0; i < 20; i++) {
                int octet = from + i < bytes.length ? bytes[from + i] & 255 : 32;
                numbers[i / 4] = numbers[i / 4] << 8 | octet;
            }
            x.feed(numbers[0], numbers[1], numbers[2], numbers[3], numbers[4]);
        }
        x.end(bytes.length);
    }

    static byte[] bytes(String text) {
        return text.getBytes(StandardCharsets.ISO_8859_1);
    }

    static byte[] octets(int... octets) {
        byte[] bytes = new byte[octets.length];
        for (int i = 0; i < octets.length; i++) {
            bytes[i] = (byte) octets[i];
        }
        return bytes;
    }

    static int court(KingsTest x, String text) {
        put(x, bytes(text));
        return x.court();
    }

    static KingsTest made(String text) {
        KingsTest x = new KingsTest();
        if (court(x, text) < 0) {
            due("court of " + text + ", fault " + x.fault(0) + " at " + x.fault(1), 0, 1);
        }
        return x;
    }

    static long ask(KingsTest x, String text) {
        put(x, bytes(text));
        return x.ask();
    }

    static int tell(KingsTest x, int... octets) {
        put(x, octets(octets));
        return x.tell();
    }

    static boolean on(KingsTest x, int... octets) {
        put(x, octets(octets));
        return x.on();
    }

    /** These bytes and the last one that AN IMAGE needs. */
    static boolean onChecked(KingsTest x, int... octets) {
        int[] all = new int[octets.length + 1];
        int check = 61;
        for (int i = 0; i < octets.length; i++) {
            all[i] = octets[i];
            check = (3 * check + octets[i]) % 251;
        }
        all[octets.length] = check;
        return on(x, all);
    }

    static void dueFault(KingsTest x, String text, int fault, int place) {
        int got = court(x, text);
        due("court of \"" + text + "\"", got, -1);
        due("fault(0) of \"" + text + "\"", x.fault(0), fault);
        due("fault(1) of \"" + text + "\"", x.fault(1), place);
    }

    static void dueAskFault(KingsTest x, String text, int fault, int place) {
        long got = ask(x, text);
        due("ask of \"" + text + "\"", got, KingsTest.NOTHING);
        due("fault(0) of \"" + text + "\"", x.fault(0), fault);
        due("fault(1) of \"" + text + "\"", x.fault(1), place);
    }

    static void dueAsked(KingsTest x, String text, long want) {
        due("ask of \"" + text + "\"", ask(x, text), want);
        due("fault(0) of \"" + text + "\"", x.fault(0), 0);
        due("fault(1) of \"" + text + "\"", x.fault(1), -1);
    }

    static void finish() {
        System.out.println(asked + " answers, " + wrong + " not as due");
        if (wrong != 0 || asked == 0) {
            System.exit(1);
        }
    }
}
