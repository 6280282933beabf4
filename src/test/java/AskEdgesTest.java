import java.util.ArrayList;
import java.util.List;

/** Terms IV and promise 31: QUESTIONS of all tests and their FAULTS, at each boundary and just beyond. */
public final class AskEdgesTest {
    private static final String A = "kind a love 9 wit 0 true 1 false 1;";
    private static final String SIX = Edges.each(6, "kind # love 1 wit 1 true 1 false 1;") + Edges.each(6, "test t# harm 1;");
    private static final String[] FACTS = {"first", "not", "number", "+", "12", ">", "3", "*", "harm", "/", "2", "-", "1", "or", "[",
        "(", "heard", ")", "=", "0", "]", "and", "min", "(", "merit", ",", "yields", "yields", "(", "sure", ")", ")", "<", "max", "(",
        "1", ",", "2", ")", "and", "all"};
    private static final String[] SUMS = {"most", "yields", "min", "(", "12", ",", "harm", ")", "+", "(", "number", "-", "1234", ")",
        "*", "merit", "/", "sure", "+", "heard", "+", "max", "(", "0", ",", "yields", "7", ")"};

    public static void main(String[] args) {
        holdsForNone();
        holdsForTheEnds();
        oftenFromNoneToAll();
        totalNotHeld();
        mostAndLeast();
        withoutTests();
        numbersOfTests();
        yieldsOfKinds();
        yieldsBinds();
        meritAlone();
        sureAlone();
        noWorld();
        heardTimes();
        words();
        numbersRead();
        wordsOfCourts();
        behindIt();
        endsTooSoon(FACTS, "first", "last", "often");
        endsTooSoon(SUMS, "most", "least", "total");
        notFitting(FACTS);
        notFitting(SUMS);
        bytesAhead();
        sevenOpen();
        openUntilItsPartEnds();
        longest();
        manyQuestions();
        mostWaiting();
        noRefusal();
        Checks.finish();
    }

    private static void dueAsked(String court, String question, long want) {
        Checks.dueAsked(Checks.made(court), question, want);
    }

    // "NONE of first, last, when its TEST holds for none"
    private static void holdsForNone() {
        KingsTest x = Checks.made(SIX);
        Checks.dueAsked(x, "first not all", -1);
        Checks.dueAsked(x, "last not all", -1);
        Checks.dueAsked(x, "first number=6", -1);
        Checks.dueAsked(x, "last number=0-1", -1);
        Checks.dueAsked(x, "often not all", 0);
        Checks.due("35: no refusal", x.status(1), 0);
    }

    // "(the first, the last test for which it holds)"
    private static void holdsForTheEnds() {
        KingsTest x = Checks.made(SIX);
        for (int test = 0; test < 6; test++) {
            Checks.dueAsked(x, "first number=" + test, test);
            Checks.dueAsked(x, "last number=" + test, test);
            Checks.dueAsked(x, "first number>" + test, test == 5 ? -1 : test + 1);
            Checks.dueAsked(x, "last number>" + test, test == 5 ? -1 : 5);
            Checks.dueAsked(x, "first number<" + test, test == 0 ? -1 : 0);
            Checks.dueAsked(x, "last number<" + test, test - 1);
        }
        Checks.dueAsked(x, "first all", 0);
        Checks.dueAsked(x, "last all", 5);
        dueAsked("test t harm 1;", "first all", 0);
        dueAsked("test t harm 1;", "last all", 0);
    }

    // "(for how many)"
    private static void oftenFromNoneToAll() {
        KingsTest x = Checks.made(SIX);
        for (int test = 0; test <= 6; test++) {
            Checks.dueAsked(x, "often number<" + test, test);
        }
        Checks.dueAsked(x, "often all", 6);
    }

    // "(of all together, not held)"
    private static void totalNotHeld() {
        KingsTest x = Checks.made(SIX);
        Checks.dueAsked(x, "total 1000*1000", 6000000);
        Checks.dueAsked(x, "total 0-1000*1000", -6000000);
        Checks.dueAsked(x, "total 9999*9999+9999", 6000000);
        Checks.dueAsked(x, "total 0-9999*9999-9999", -6000000);
        dueAsked("test t harm 1;test u harm 1;", "total 1000*999+1000", 2000000);
        dueAsked("test t harm 1;test u harm 1;", "total 1000*500", 1000000);
        dueAsked("test t harm 1;test u harm 1;", "total 1000*500+1", 1000002);
        dueAsked("test t harm 1;test u harm 1;", "total 0-1000*500-1", -1000002);
        Checks.dueAsked(x, "most 9999*9999", 1000000);
        Checks.dueAsked(x, "least 0-9999*9999", -1000000);
    }

    // "(the greatest, the least of all ..)", below 0, too, wherever it stands
    private static void mostAndLeast() {
        KingsTest x = Checks.made("test a harm 3;test b harm 5;test c harm 1;");
        Checks.dueAsked(x, "most harm", 5);
        Checks.dueAsked(x, "least harm", 1);
        Checks.dueAsked(x, "most 0-harm", -1);
        Checks.dueAsked(x, "least 0-harm", -5);
        for (int test = 0; test < 3; test++) {
            String there = "-(number-" + test + ")*(number-" + test + ")";
            Checks.dueAsked(x, "most 0" + there, 0);
            Checks.dueAsked(x, "most 7" + there, 7);
            Checks.dueAsked(x, "most 0-7" + there, -7);
            String low = "(number-" + test + ")*(number-" + test + ")";
            Checks.dueAsked(x, "least " + low, 0);
            Checks.dueAsked(x, "least 7+" + low, 7);
            Checks.dueAsked(x, "least 0-7+" + low, -7);
        }
        dueAsked("test t harm 9;", "most harm", 9);
        dueAsked("test t harm 9;", "least harm", 9);
    }

    // "0 without tests", "NONE of first, last"
    private static void withoutTests() {
        for (String court : new String[] {"", A}) {
            dueAsked(court, "first all", -1);
            dueAsked(court, "last all", -1);
            dueAsked(court, "often all", 0);
            dueAsked(court, "total 7", 0);
            dueAsked(court, "most 7", 0);
            dueAsked(court, "least 7", 0);
            dueAsked(court, "most 0-7", 0);
            dueAsked(court, "least 0-7", 0);
        }
        Edges.dueAskFault("total", 1, 5);
        KingsTest x = new KingsTest();
        Checks.due("31: a FAULT without tests", Checks.ask(x, "total ?"), KingsTest.NOTHING);
        Checks.due("5: its place", x.fault(1), 6);
    }

    // "The test's number": from 0
    private static void numbersOfTests() {
        KingsTest x = Checks.made(SIX);
        Checks.dueAsked(x, "least number", 0);
        Checks.dueAsked(x, "most number", 5);
        Checks.dueAsked(x, "total number", 15);
        dueAsked("test t harm 0;test u harm 99;", "total harm+number*100", 199);
    }

    // "how many .. of the KIND of that number would yield: 0, 1 or 2, 0 of those that there are not"
    private static void yieldsOfKinds() {
        String court = "kind a love 0 wit 0 true 1 false 1;kind b love 1 wit 0 true 1 false 1;kind c love 2 wit 0 true 1 false 1;"
            + "test t harm 1;yields love=2 or love=1 and truth=0;";
        String[] kinds = {"0", "1", "2", "3", "4", "5", "6", "7", "32", "9999", "(0-1)", "(0-2)", "(1000*1000)", "(0-1000*1000)"};
        int[] dues = {0, 1, 2, 0, 0, 0, 0, 0, 0, 0, 0, 0, 0, 0};
        for (int i = 0; i < kinds.length; i++) {
            dueAsked(court, "total yields " + kinds[i], dues[i]);
        }
        KingsTest x = Checks.made(SIX + "yields all;");
        for (int kind = 0; kind < 8; kind++) {
            Checks.dueAsked(x, "most yields " + kind, kind < 6 ? 2 : 0);
            Checks.dueAsked(x, "most yields(0-1-" + kind + ")", 0);
        }
        // KINDS that a court had before are not there any more
        Checks.court(x, A + "test t harm 1;yields all;");
        Checks.dueAsked(x, "total yields 0", 2);
        Checks.dueAsked(x, "total yields 1", 0);
        Checks.dueAsked(x, "total yields 5", 0);
        Checks.court(x, "test t harm 1;");
        Checks.dueAsked(x, "total yields 0", 0);
        Checks.dueAsked(x, "total yields 5", 0);
        // without a rule just who is true yields, of KINDS that there are
        Checks.court(x, A + "test t harm 1;");
        Checks.dueAsked(x, "total yields 0", 1);
        Checks.dueAsked(x, "total yields 1", 0);
    }

    // "yields PART": of the PART alone
    private static void yieldsBinds() {
        KingsTest x = Checks.made(A + "kind b love 1 wit 0 true 1 false 1;test t harm 1;yields love>5;");
        Checks.dueAsked(x, "total yields 0", 2);
        Checks.dueAsked(x, "total yields 1", 0);
        Checks.dueAsked(x, "total yields 0+1", 3);
        Checks.dueAsked(x, "total yields 0*1", 2);
        Checks.dueAsked(x, "total yields 1-1", -1);
        Checks.dueAsked(x, "total 5-yields 0", 3);
        Checks.dueAsked(x, "total yields(1-1)", 2);
        Checks.dueAsked(x, "total yields yields 1", 2);
        Checks.dueAsked(x, "total yields yields 0", 0);
        Checks.dueAsked(x, "total yields number", 2);
        Checks.dueAsked(x, "total yields harm", 0);
        Checks.dueAsked(x, "total yields heard", 2);
        Checks.dueAsked(x, "total yields min(0,1)", 2);
        Checks.dueAsked(x, "total yields max(0,1)", 0);
        Checks.dueAsked(x, "total yields sure", 2);
        Checks.dueAsked(x, "total yields merit", 0);
    }

    // "its MERIT alone, 0 if it is heard in this case"
    private static void meritAlone() {
        KingsTest x = Checks.made(Edges.TWO);
        Checks.dueAsked(x, "least merit", 861666);
        Checks.dueAsked(x, "most merit", 980000);
        x.hear(0, 0, 0);
        Checks.dueAsked(x, "least merit", 0);
        Checks.dueAsked(x, "first merit=0", 0);
        Checks.dueAsked(x, "last merit=0", 0);
        x.judge(0);
        Checks.dueAsked(x, "first merit=0", -1);
        dueAsked(A + "test t harm 99;price 9999;first 50;yields all;", "total merit", 500000 - 99 * 9999);
        dueAsked(A + "test t harm 0;price 9999;first 50;", "total merit", 1000000);
        dueAsked(A + "test t harm 0;price 9999;first 50;", "total merit+1", 1000000);
        dueAsked(A + "test t harm 0;price 9999;first 50;", "total merit-1", 999999);
    }

    // "1 if it alone is SURE, else 0"
    private static void sureAlone() {
        KingsTest x = Checks.made(Edges.TWO);
        Checks.dueAsked(x, "total sure*10+number", 11);
        x.hear(0, 1, 0);
        Checks.due("20: none is needed", x.sure(0), 0);
        Checks.dueAsked(x, "first sure=1", 1);
        Checks.dueAsked(x, "total sure", 1);
        x.hear(1, 0, 1);
        Checks.dueAsked(x, "total sure", 0);
        x = Checks.made(A + Edges.each(6, "test t# harm 1;"));
        Checks.dueAsked(x, "total sure", 6);
        for (int test = 0; test < 6; test++) {
            x.hear(test, 1, 0);
            Checks.dueAsked(x, "total sure", 5 - test);
        }
        dueAsked(SIX + "yields all;", "total sure", 0);
        // where the one WORLD that is left has the least WEIGHT there is, 1
        x = Checks.made(A + "first 1;price 7;test t harm 1;test u harm 2;");
        x.hear(0, 1, 0);
        Checks.due("13: WEIGHT of 1", x.weight(0, 0, 0) * 10 + x.weight(1, 0, 0), 10);
        Checks.dueAsked(x, "total sure*10+number", 11);
        Checks.dueAsked(x, "total merit", 1000000 - 14);
    }

    // "both 0, too, if no WORLD has WEIGHT"
    private static void noWorld() {
        String court = "kind a love 9 wit 0 true 0 false 1;test t harm 5;test u harm 5;";
        dueAsked(court, "total merit", 0);
        dueAsked(court, "least merit", 0);
        dueAsked(court, "total sure", 0);
        dueAsked(court, "total yields 0", 2);
        KingsTest x = Edges.imaged(A + "test t harm 5;test u harm 6;", 0, 0, 0, 0, 7, 4, 8, 0);
        Checks.dueAsked(x, "most merit", 0);
        Checks.dueAsked(x, "least merit", 0);
        Checks.dueAsked(x, "total sure", 0);
        Checks.dueAsked(x, "total heard", 15);
        Checks.dueAsked(x, "total yields 0", 2);
        Checks.dueAsked(x, "total harm", 11);
    }

    private static void heardTimes() {
        KingsTest x = Edges.imaged("test t harm 1;test u harm 1;test v harm 1;", 0, 0, 0, 0, 0, 1, 98, 2, 99, 4);
        Checks.dueAsked(x, "least heard", 0);
        Checks.dueAsked(x, "most heard", 99);
        Checks.dueAsked(x, "total heard", 197);
        x.judge(0);
        Checks.dueAsked(x, "total heard", 199);
    }

    // "first TEST, last TEST .., often TEST .., total SUM .., most SUM, least SUM"; "an unknown word at its first byte"
    private static void words() {
        KingsTest x = Checks.made(SIX);
        for (String word : new String[] {"first", "last", "often"}) {
            Checks.dueAsked(x, word + " all", word.equals("first") ? 0 : word.equals("last") ? 5 : 6);
            Checks.dueAsked(x, "\n " + word + "[all]", word.equals("first") ? 0 : word.equals("last") ? 5 : 6);
            Edges.dueAskFault(word + " 7", 1, word.length() + 2);
            Edges.dueAskFault(word, 1, word.length());
        }
        for (String word : new String[] {"total", "most", "least"}) {
            Checks.dueAsked(x, word + " 7", word.equals("total") ? 42 : 7);
            Checks.dueAsked(x, " \n" + word + "(7)", word.equals("total") ? 42 : 7);
            Edges.dueAskFault(word + " all", 1, word.length() + 1);
            Edges.dueAskFault(word + " 7=7", 1, word.length() + 2);
            Edges.dueAskFault(word + " [7]", 1, word.length() + 1);
            Edges.dueAskFault(word + "7", 1, word.length());
        }
        String[] none = {"kind", "every", "firsts", "firs", "lastlast", "number", "all", "min", "yields", "t", "ta", "not", "totally"};
        for (String word : none) {
            Edges.dueAskFault(word + " all", 1, 0);
            Edges.dueAskFault("  " + word + " 7", 1, 2);
        }
    }

    // "N": 1 to 4 digits
    private static void numbersRead() {
        dueAsked("test t harm 1;", "total 0", 0);
        dueAsked("test t harm 1;", "total 9999", 9999);
        dueAsked("test t harm 1;", "total 0000", 0);
        dueAsked("test t harm 1;", "total 0099", 99);
        for (String number : new String[] {"00000", "10000", "99999", "123456789"}) {
            Edges.dueAskFault("total " + number, 1, 10);
            Edges.dueAskFault("first 1=" + number, 1, 12);
            Edges.dueAskFault("total yields " + number, 1, 17);
        }
    }

    // "but PART: ..": the words of a court's TEST are none here
    private static void wordsOfCourts() {
        String[] none = {"love", "wit", "truth", "true", "false", "kind", "test", "mark", "first", "price", "or", "and", "numbers",
            "last", "often", "total", "most", "least", "x", "abcdefgh"};
        for (String word : none) {
            Edges.dueAskFault("total " + word, 1, 6);
            Edges.dueAskFault("first 1=" + word, 1, 8);
            Edges.dueAskFault("total yields " + word, 1, 13);
            Edges.dueAskFault("total min(1, " + word + ")", 1, 13);
        }
        for (String word : new String[] {"number", "harm", "heard", "merit", "sure"}) {
            Edges.dueAskFault("total " + word + "7", 1, 6 + word.length());
            Edges.dueAskFault("total " + word + "s", 1, 6);
            Edges.dueAskFault("total 7" + word, 1, 7);
        }
        Edges.dueAskFault("total all", 1, 6);
        Edges.dueAskFault("total not", 1, 6);
        for (String sign : new String[] {"", "=", "+", "*", ")", ",", "[", ";"}) {
            Edges.dueAskFault("total min" + sign, 1, 9);
            Edges.dueAskFault("total 1+max" + sign + "1", 1, 11);
        }
    }

    // "what stands behind it, too"
    private static void behindIt() {
        String[] all = {";", "?", "7", "all", "x", ")", "]", "(", ",", "abcdefg", "12345", "\u00e9", "\t", "first all"};
        for (String behind : all) {
            Edges.dueAskFault("total 7 " + behind, 1, 8);
            Edges.dueAskFault("first all \n" + behind, 1, 11);
        }
        Edges.dueAskFault("total 7;", 1, 7);
        Edges.dueAskFault("first all;", 1, 9);
        Edges.dueAskFault("total 7x", 1, 7);
        Edges.dueAskFault("total (7))", 1, 9);
        Edges.dueAskFault("first 7=7=7", 1, 9);
        dueAsked("test t harm 1;", "total 7 \n \n", 7);
    }

    private static boolean isWord(String token) {
        return Character.isLetterOrDigit(token.charAt(0));
    }

    private static String joined(String[] tokens, String needed, String free, List<Integer> places) {
        StringBuilder all = new StringBuilder();
        for (int i = 0; i < tokens.length; i++) {
            all.append(i == 0 ? "" : isWord(tokens[i - 1]) && isWord(tokens[i]) ? needed : free);
            places.add(all.length());
            all.append(tokens[i]);
        }
        return all.toString();
    }

    private static boolean isWhole(String text, String[] tokens) {
        KingsTest x = Checks.made(Edges.TWO);
        return Checks.ask(x, text) != KingsTest.NOTHING && tokens.length > 0;
    }

    // "at the text's length, if it ends too soon"; a word cut short is none, at its first byte
    private static void endsTooSoon(String[] tokens, String... words) {
        List<Integer> places = new ArrayList<>();
        String text = joined(tokens, " ", "", places);
        for (String blank : new String[] {" ", "\n", " \n "}) {
            Checks.due("I: blanks where one likes", isWhole(joined(tokens, blank, blank, new ArrayList<>()), tokens), true);
        }
        for (String word : words) {
            Checks.due("IV: " + word, isWhole(word + text.substring(tokens[0].length()), tokens), true);
        }
        int faults = 0;
        for (int i = 0; i < tokens.length; i++) {
            int end = places.get(i) + tokens[i].length();
            for (int cut = places.get(i) + 1; cut < end && Character.isLetter(tokens[i].charAt(0)); cut++) {
                Edges.dueAskFault(text.substring(0, cut), 1, places.get(i));
            }
            if (!isWhole(text.substring(0, end), tokens)) {
                faults++;
                Edges.dueAskFault(text.substring(0, end), 1, end);
                Edges.dueAskFault(text.substring(0, end) + " \n", 1, end + 2);
            }
        }
        Checks.due("IV: most of these end too soon", faults > tokens.length / 2, true);
        Edges.dueAskFault("", 1, 0);
        Edges.dueAskFault(" \n ", 1, 3);
    }

    // "1 as in I": a sign that is none, ahead of each word, number, sign
    private static void notFitting(String[] tokens) {
        List<Integer> places = new ArrayList<>();
        String text = joined(tokens, " ", " ", places);
        for (int place : places) {
            Edges.dueAskFault(text.substring(0, place) + "?" + text.substring(place), 1, place);
            Edges.dueAskFault(text.substring(0, place) + "\u00e9", 1, place);
            Edges.dueAskFault(text.substring(0, place) + "wrong", 1, place);
        }
    }

    private static void bytesAhead() {
        for (int octet = 0; octet < 256; octet++) {
            KingsTest x = Checks.made("test t harm 1;");
            boolean blank = octet == 10 || octet == 32;
            Checks.due("31: byte " + octet + " ahead", Checks.ask(x, (char) octet + "total 7"), blank ? 7 : KingsTest.NOTHING);
            Checks.due("31: byte " + octet + " ahead, fault(1)", x.fault(1), blank ? -1 : 0);
            Checks.due("31: byte " + octet + " behind", Checks.ask(x, "total 7 " + (char) octet),
                blank ? 7 : KingsTest.NOTHING);
            int place = "+-*/".indexOf(octet) >= 0 ? 9 : 8;
            Checks.due("31: byte " + octet + " behind, fault(1)", x.fault(1), blank ? -1 : place);
        }
    }

    // "4 the 7th of ( [ not yields that is open at once .., at it"
    private static void sevenOpen() {
        String[] opening = {"(", "yields ", "min(", "max(1,", "yields\n", "yields("};
        for (String open : opening) {
            int each = open.equals("yields(") ? 2 : 1;
            String close = open.equals("min(") ? ",1)" : open.contains("(") ? ")" : "";
            for (int n = 1; n <= 6 / each; n++) {
                dueAsked("test t harm 1;", "total " + open.repeat(n) + "0" + close.repeat(n), open.equals("max(1,") ? 1 : 0);
            }
            int n = 6 / each;
            int at = 6 + open.length() * n + (each == 2 ? 0 : Math.max(0, open.indexOf('(')));
            Edges.dueAskFault("total " + open.repeat(n + 1) + "0" + close.repeat(n + 1), 4, at);
            Edges.dueAskFault("total " + open.repeat(n + 1), 4, at);
            Edges.dueAskFault("total " + open.repeat(n), 1, 6 + open.length() * n);
            Edges.dueAskFault("total " + open.repeat(n) + "yields", 4, 6 + open.length() * n);
            Edges.dueAskFault("total " + open.repeat(n) + "(", 4, 6 + open.length() * n);
        }
        for (String open : new String[] {"not ", "[", "[\n"}) {
            String close = open.contains("[") ? "]" : "";
            dueAsked("test t harm 1;", "often " + open.repeat(6) + "all" + close.repeat(6), 1);
            Edges.dueAskFault("often " + open.repeat(7) + "all" + close.repeat(7), 4, 6 + 6 * open.length());
            Edges.dueAskFault("often " + open.repeat(6) + "yields 0=0", 4, 6 + 6 * open.length());
            Edges.dueAskFault("often " + open.repeat(6) + "(0)=0", 4, 6 + 6 * open.length());
            Edges.dueAskFault("often " + open.repeat(6) + "min(0,1)=0", 4, 9 + 6 * open.length());
            dueAsked("test t harm 1;", "often " + open.repeat(5) + "yields 0=0" + close.repeat(5), open.contains("[") ? 1 : 0);
        }
        Edges.dueAskFault("often [not[not(yields(1))=1]]", 4, 21);
        Edges.dueAskFault("often [not[not(yields yields 1)=1]]", 4, 22);
        dueAsked("test t harm 1;", "often [not[not(yields 1)=1]]", 0);
        Edges.dueAskFault("total ((((((yieldsx", 1, 12);
    }

    // "(not until its FACT, yields until its PART ends)"
    private static void openUntilItsPartEnds() {
        KingsTest x = Checks.made(A + "test t harm 1;yields all;");
        Checks.dueAsked(x, "total yields 0" + "+yields 0".repeat(20), 42);
        Checks.dueAsked(x, "total yields 0*(((((yields 0)))))", 4);
        Checks.dueAsked(x, "total yields(((((0)))))*((((((3))))))", 6);
        Edges.dueAskFault("total yields((((((0))))))", 4, 17);
        Checks.dueAsked(x, "total yields 0+yields yields yields yields yields yields 0", 2);
        Checks.dueAsked(x, "total yields min(((((0)))),1)+((((((1))))))", 3);
        Edges.dueAskFault("total yields min((((((0))))),1)", 4, 21);
        // the FACT of a not goes on behind a PART
        Edges.dueAskFault("often not yields 0=yields yields yields yields yields yields 0", 4, 54);
        Checks.dueAsked(x, "often not yields 0=yields yields yields yields yields 0", 0);
        Checks.dueAsked(x, "often not yields 0=1 and yields yields yields yields yields yields 0=2", 0);
        Checks.dueAsked(x, "often [yields 0=2] and [[[[[yields 0=2]]]]]", 1);
        Edges.dueAskFault("often [yields 0=2] and [[[[[[yields 0=2]]]]]]", 4, 29);
    }

    // 1600 bytes are a QUESTION as fewer are
    private static void longest() {
        KingsTest x = Checks.made("test t harm 1;");
        String sum = "total 1" + "+1".repeat(796);
        Checks.dueAsked(x, sum + " ", 797);
        Checks.dueAsked(x, "total " + " ".repeat(1593) + "7", 7);
        for (int i = 0; i < 3; i++) {
            Checks.dueAsked(x, "most 1" + "+1".repeat(790), 791);
        }
        Edges.dueAskFault("total " + " ".repeat(1593) + "?", 1, 1599);
        Edges.dueAskFault("total 7" + " ".repeat(1592) + "?", 1, 1599);
    }

    // each is answered as if it were the first one
    private static void manyQuestions() {
        KingsTest x = Checks.made("test t harm 1;");
        for (int i = 0; i < 100; i++) {
            Checks.due("31: the " + i + "th question", Checks.ask(x, "total " + i + "+1"), i + 1);
        }
    }

    // as much as can wait for what is open: or, and, =, +, *, and in each min the first SUM, + and *
    private static void mostWaiting() {
        KingsTest x = Checks.made(A + "test t harm 3;yields not all or not all and 1=1+1*" + "min(9,1+1*".repeat(6) + "1"
            + ")".repeat(6) + " or 8=1+1*" + "min(9,1+1*".repeat(6) + "1" + ")".repeat(6) + ";");
        Checks.due("11: 1 and 1 for each of seven", x.yields(0, 0, 0), 1);
        Checks.dueAsked(x, "total 1+1*" + "min(9,1+1*".repeat(6) + "1" + ")".repeat(6), 8);
        Checks.dueAsked(x, "often not all or all and 8=1+1*" + "min(9,1+1*".repeat(6) + "1" + ")".repeat(6), 1);
        Checks.dueAsked(x, "often " + "all and [not all or ".repeat(5) + "all and 3=1+1*(1+1*1)" + "]".repeat(5), 1);
    }

    // "its answer; .. NOTHING with a FAULT": neither is refused, and a court stays
    private static void noRefusal() {
        KingsTest x = Edges.rich();
        Checks.ask(x, "total ?");
        Checks.ask(x, "total 7");
        for (int what = 0; what < 6; what++) {
            Checks.due("35: status(" + what + ")", x.status(what), 0);
        }
        Checks.due("31: the tape goes", x.feed(0, 0, 0, 0, 0), 20);
        Edges.dueAskFault("", 1, 0);
    }
}
