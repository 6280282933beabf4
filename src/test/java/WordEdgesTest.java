import java.util.ArrayList;
import java.util.List;

/** Terms I: NAMES, OWN WORDS, blanks, the FAULTS 1, 3, 4 and their places, at each boundary and just beyond. */
public final class WordEdgesTest {
    private static final String[] OWN = {"kind", "love", "wit", "true", "false", "test", "harm", "mark", "yields", "first",
        "price", "heard", "truth", "number", "merit", "sure", "or", "and", "not", "all", "min", "max"};
    // a text with each sort of word, number and sign in it; NAMES are told apart by a # behind them
    private static final String[] TOKENS = {"kind", "abc#", "love", "12", "wit", "34", "true", "5", "false", "6", ";",
        "test", "abd#", "harm", "78", ";", "mark", "ab#", "true", "9", "false", "1", ";", "first", "42", ";", "price", "1234", ";",
        "yields", "not", "love", "+", "12", ">", "3", "*", "wit", "/", "2", "-", "1", "or", "[", "(", "heard", ")", "=", "0", "]",
        "and", "min", "(", "harm", ",", "2", ")", "<", "max", "(", "1", ",", "truth", ")", "or", "all", ";"};

    public static void main(String[] args) {
        nameLetters();
        namesOwnWords();
        namesUnlike();
        nameAsked();
        bytesOfWords();
        bytesOfNumbers();
        bytesOfStatements();
        blanksWhereOneLikes();
        blanksNeeded();
        endsTooSoon();
        firstByteThatDoesNotFit();
        wordsWhole();
        sevenOpen();
        sevenOpenInPairs();
        openUntilItsFactEnds();
        manyOneBehindTheOther();
        sevenAtIt();
        Checks.finish();
    }

    private static void dueName(String name) {
        KingsTest x = Edges.dueTaken("test " + name + " harm 1;", 1);
        for (int k = 0; k < 6; k++) {
            int want = k < name.length() ? name.charAt(k) - 'a' + 1 : 0;
            Checks.due("7: letter " + k + " of " + name, x.letter(1, 0, k), want);
        }
    }

    // "NAMES: 1 to 6 letters", "a 7th letter at itself"
    private static void nameLetters() {
        for (String name : new String[] {"a", "z", "az", "abc", "yzab", "abcde", "abcdef", "zzzzzz", "aaaaaa"}) {
            dueName(name);
        }
        String[] behind = {"kind # love 1 wit 1 true 1 false 1;", "test # harm 1;", "mark # true 1 false 1;"};
        for (String statement : behind) {
            Edges.dueTaken(statement.replace("#", "q"), 1);
            Edges.dueTaken(statement.replace("#", "qwerty"), 1);
            Edges.dueFault(statement.replace("#", "qwertyu"), 1, 11);
            Edges.dueFault(statement.replace("#", "qwertyuiop"), 1, 11);
            Edges.dueFault(statement.replace("#", "\n  qwertyu"), 1, 14);
            Edges.dueFault(statement.replace("#", ""), 1, 6);
            Edges.dueFault(statement.substring(0, 5) + "qwertyu", 1, 11);
            Edges.dueFault(statement.substring(0, 5) + "qwerty", 1, 11);
            Edges.dueFault(statement.substring(0, 5) + "qwerty7", 1, 11);
        }
        // the first six letters may be those of another NAME, or of an OWN WORD
        Edges.dueFault("test abcdef harm 1;test abcdefg harm 1;", 1, 30);
        Edges.dueFault("test yieldsx harm 1;", 1, 11);
        Edges.dueFault("test numbers harm 1;", 1, 11);
    }

    // "no OWN WORD": each, in each sort; what is like one is none
    private static void namesOwnWords() {
        for (String word : OWN) {
            Edges.dueFault("kind " + word + " love 1 wit 1 true 1 false 1;", 1, 5);
            Edges.dueFault("test  " + word + " harm 1;", 1, 6);
            Edges.dueFault("mark " + word, 1, 5);
            String longer = word + "x";
            if (longer.length() < 7) {
                dueName(longer);
            }
            dueName(word.substring(1));
            dueName(word.substring(0, word.length() - 1));
        }
        for (String word : new String[] {"last", "often", "total", "most", "least", "none", "a", "god"}) {
            dueName(word);
        }
    }

    // "unlike ones (of all sorts)", "3 a NAME to be given that is there already, at it"
    private static void namesUnlike() {
        String[] all = {"kind # love 1 wit 1 true 1 false 1;", "test # harm 1;", "mark # true 1 false 1;"};
        for (String one : all) {
            for (String other : all) {
                String given = one.replace("#", "same");
                Edges.dueFault(given + other.replace("#", "same"), 3, given.length() + 5);
                Edges.dueFault(given + other.substring(0, 5) + "  same", 3, given.length() + 7);
                Edges.dueTaken(given + other.replace("#", "sam"), 2);
                Edges.dueTaken(given + other.replace("#", "samea"), 2);
                Edges.dueTaken(given + other.replace("#", "samf"), 2);
                Edges.dueTaken(given + other.replace("#", "tame"), 2);
            }
        }
        String six = Edges.each(6, "kind # love 1 wit 1 true 1 false 1;") + Edges.each(6, "test t# harm 1;")
            + Edges.each(4, "mark m# true 1 false 1;");
        for (String last : new String[] {"a", "f", "ta", "tf", "ma", "md"}) {
            Edges.dueFault(six + "mark " + last + " true 1 false 1;", 3, six.length() + 5);
        }
        Edges.dueTaken(six + "mark me true 1 false 1;", 17);
        // a NAME of a court that was there before is free again
        KingsTest x = Checks.made("test same harm 1;");
        Checks.due("I: the NAME in a new court", Checks.court(x, "test same harm 2;"), 1);
        Checks.court(x, "kind new love 1 wit 1 true 1 false 1;test");
        Checks.due("I: a NAME of a court with a FAULT", Checks.court(x, "test new harm 2;"), 1);
    }

    // where a NAME is asked: a sign, a number, the end
    private static void nameAsked() {
        for (String word : new String[] {"kind", "test", "mark"}) {
            for (String sign : new String[] {"5", "12345", ";", "?", "K", "_", "\u00e9", "`", "{"}) {
                Edges.dueFault(word + " " + sign, 1, 5);
                Edges.dueFault(word + sign, 1, 4);
            }
            Edges.dueFault(word, 1, 4);
            Edges.dueFault(word + " \n", 1, 6);
        }
    }

    // each byte there is as the second one of a NAME; letters are a to z
    private static void bytesOfWords() {
        for (int octet = 0; octet < 256; octet++) {
            String text = "mark m" + (char) octet + " true 1 false 1;";
            KingsTest x = new KingsTest();
            boolean fits = octet >= 'a' && octet <= 'z' || octet == ' ' || octet == '\n';
            Checks.due("I: a NAME and byte " + octet, Checks.court(x, text), fits ? 1 : -1);
            Checks.due("I: a NAME and byte " + octet + ", fault(0)", x.fault(0), fits ? 0 : 1);
            Checks.due("I: a NAME and byte " + octet + ", fault(1)", x.fault(1), fits ? -1 : 6);
        }
    }

    // each byte there is as the second one of a number; digits are 0 to 9
    private static void bytesOfNumbers() {
        for (int octet = 0; octet < 256; octet++) {
            KingsTest x = new KingsTest();
            boolean fits = octet >= '0' && octet <= '9' || octet == ' ' || octet == '\n';
            Checks.due("I: a number and byte " + octet, Checks.court(x, "first 4" + (char) octet + ";"), fits ? 1 : -1);
            Checks.due("I: a number and byte " + octet + ", fault(0)", x.fault(0), fits ? 0 : 1);
            int place = octet == ';' ? 8 : 7;
            Checks.due("I: a number and byte " + octet + ", fault(1)", x.fault(1), fits ? -1 : place);
            int read = octet >= '0' && octet <= '9' ? 40 + octet - '0' : fits ? 4 : 50;
            Checks.due("I: a number and byte " + octet + ", has(3)", x.has(3), read);
        }
    }

    // "Blanks (10, 32)": no other byte is one, and none begins a STATEMENT but a letter
    private static void bytesOfStatements() {
        for (int octet = 0; octet < 256; octet++) {
            KingsTest x = new KingsTest();
            boolean blank = octet == 10 || octet == 32;
            Checks.due("I: byte " + octet + " alone", Checks.court(x, "" + (char) octet), blank ? 0 : -1);
            Checks.due("I: byte " + octet + " alone, fault(1)", x.fault(1), blank ? -1 : 0);
            boolean letter = octet >= 'a' && octet <= 'z';
            Checks.due("I: byte " + octet + " ahead", Checks.court(x, (char) octet + "first 7;"), blank ? 1 : -1);
            Checks.due("I: byte " + octet + " ahead, fault(1)", x.fault(1), blank ? -1 : 0);
            Checks.due("I: byte " + octet + " between", Checks.court(x, "first" + (char) octet + "7;"), blank ? 1 : -1);
            Checks.due("I: byte " + octet + " between, fault(1)", x.fault(1), blank ? -1 : letter ? 0 : 5);
            Checks.due("I: byte " + octet + " between, fault(0)", x.fault(0), blank ? 0 : 1);
            Checks.due("I: byte " + octet + " where ; is due", Checks.court(x, "first 7" + (char) octet), octet == ';' ? 1 : -1);
        }
    }

    private static boolean isName(int i) {
        return TOKENS[i].endsWith("#");
    }

    private static String token(int i) {
        return TOKENS[i].replace("#", "");
    }

    private static boolean isWord(int i) {
        return Character.isLetterOrDigit(TOKENS[i].charAt(0));
    }

    /** The tokens, with this between those that need a blank, that between the others; the places go into the list. */
    private static String joined(String needed, String free, List<Integer> places) {
        StringBuilder all = new StringBuilder(free);
        for (int i = 0; i < TOKENS.length; i++) {
            if (i > 0) {
                all.append(isWord(i - 1) && isWord(i) ? needed : free);
            }
            places.add(all.length());
            all.append(token(i));
        }
        return all.append(free).toString();
    }

    // "Blanks (10, 32) are where one likes"
    private static void blanksWhereOneLikes() {
        String[] blanks = {" ", "\n", "  ", "\n\n", " \n \n ", "     "};
        for (String needed : blanks) {
            for (String free : new String[] {"", " ", "\n", " \n  "}) {
                KingsTest x = Edges.dueTaken(joined(needed, free, new ArrayList<>()), 6);
                Checks.due("I: love", x.kind(0, 0), 12);
                Checks.due("I: wit", x.kind(0, 1), 34);
                Checks.due("I: harm", x.test(0, 0), 78);
                Checks.due("I: first", x.has(3), 42);
                Checks.due("I: yields", x.yields(0, 0, 0), 1);
            }
        }
        Edges.dueFault("ki nd k love 1 wit 1 true 1 false 1;", 1, 0);
        Edges.dueFault("first 1 2;", 1, 8);
        Edges.dueFault("test a b harm 1;", 1, 7);
        Edges.dueFault("yields 1 < = 2;", 1, 11);
        Edges.dueFault("yields mi n(1,2)=1;", 1, 7);
    }

    // "(words and numbers side by side need one)"
    private static void blanksNeeded() {
        Edges.dueFault("kindk love 1 wit 1 true 1 false 1;", 1, 0);
        Edges.dueFault("kind k love1 wit 1 true 1 false 1;", 1, 11);
        Edges.dueFault("kind k love 1wit 1 true 1 false 1;", 1, 13);
        Edges.dueFault("kind k love 1 wit1 true 1 false 1;", 1, 17);
        Edges.dueFault("kind k love 1 wit 1true 1 false 1;", 1, 19);
        Edges.dueFault("kind k love 1 wit 1 true1 false 1;", 1, 24);
        Edges.dueFault("kind k love 1 wit 1 true 1false 1;", 1, 26);
        Edges.dueFault("kind k love 1 wit 1 true 1 false1;", 1, 32);
        Edges.dueFault("kind klove 1 wit 1 true 1 false 1;", 1, 11);
        Edges.dueFault("test t harm1;", 1, 11);
        Edges.dueFault("mark m true1 false 1;", 1, 11);
        Edges.dueFault("mark m true 1false 1;", 1, 13);
        Edges.dueFault("first7;", 1, 5);
        Edges.dueFault("price0;", 1, 5);
        Edges.dueFault("yields1=1;", 1, 6);
        Edges.dueFault("yields 1=1and all;", 1, 10);
        Edges.dueFault("yields 1=1or all;", 1, 10);
        Edges.dueFault("yields all or1=1;", 1, 13);
        Edges.dueFault("yields not1=1;", 1, 10);
        Edges.dueFault("yields notall;", 1, 7);
        Edges.dueFault("yields love0=0;", 1, 11);
        // nor do numbers that are the signs' own bytes stand for them
        Edges.dueFault("yields love61 1;", 1, 11);
        Edges.dueFault("yields 1=love59", 1, 13);
        Edges.dueFault("yields all59", 1, 10);
        Edges.dueTaken("yields(1)=1or[all]and not[all]or(love)=1;".replace("1or", "1 or"), 1);
        Edges.dueTaken("yields[all]or not(1)=min(1,2);", 1);
    }

    // "at the text's length, if it ends too soon"; a word cut short is none, at its first byte
    private static void endsTooSoon() {
        List<Integer> places = new ArrayList<>();
        String text = joined(" ", "", places);
        int token = -1;
        for (int cut = 0; cut < text.length(); cut++) {
            while (token + 1 < TOKENS.length && places.get(token + 1) < cut) {
                token++;
            }
            boolean within = token >= 0 && cut < places.get(token) + token(token).length();
            boolean ofLetters = token >= 0 && Character.isLetter(TOKENS[token].charAt(0)) && !isName(token);
            String short1 = text.substring(0, cut);
            if (token < 0 || TOKENS[token].equals(";")) {
                Edges.dueTaken(short1, (int) short1.chars().filter(c -> c == ';').count());
            } else {
                Edges.dueFault(short1, 1, within && ofLetters ? places.get(token) : cut);
                if (!within) {
                    Edges.dueFault(short1 + " \n ", 1, cut + 3);
                }
            }
        }
    }

    // "1 the first byte with which no such text goes on": a sign that is none, ahead of each word, number, sign
    private static void firstByteThatDoesNotFit() {
        List<Integer> places = new ArrayList<>();
        String text = joined(" ", " ", places);
        for (int place : places) {
            String ahead = text.substring(0, place);
            Edges.dueFault(ahead + "?" + text.substring(place), 1, place);
            Edges.dueFault(ahead + "\u00e9", 1, place);
            Edges.dueFault(ahead + "{", 1, place);
            Edges.dueFault(ahead + "\t" + text.substring(place), 1, place);
            Edges.dueFault(ahead + "wrongword", 1, isNameAt(places, place) ? place + 6 : place);
        }
        Edges.dueFault(text + "?", 1, text.length());
    }

    private static boolean isNameAt(List<Integer> places, int place) {
        return isName(places.indexOf(place));
    }

    // "(words and numbers whole, at their first byte ..)"
    private static void wordsWhole() {
        Edges.dueFault("kinds k", 1, 0);
        Edges.dueFault(" firstfirst 7;", 1, 1);
        Edges.dueFault("kind k lovel 1", 1, 7);
        Edges.dueFault("kind k lov", 1, 7);
        Edges.dueFault("kind k lo7e", 1, 7);
        Edges.dueFault("first 7 12345;", 1, 8);
        Edges.dueFault("first 7 123;", 1, 8);
        Edges.dueFault("kind 12345", 1, 5);
        Edges.dueFault("12345", 1, 0);
        Edges.dueFault("yields love 12345", 1, 12);
        Edges.dueFault("yields allx", 1, 7);
        Edges.dueFault("yields all nor all", 1, 11);
        Edges.dueFault("yields all orr all", 1, 11);
        Edges.dueFault("yields min7(1,2)", 1, 10);
        Edges.dueFault("yields minimum(1,2)", 1, 7);
        Edges.dueFault("yields lovelovelove=1;", 1, 7);
        Edges.dueFault("yields 1=2=3;", 1, 10);
        Edges.dueFault("yields 1=;", 1, 9);
        Edges.dueFault("yields 1=1);", 1, 10);
        Edges.dueFault("yields [1=1);", 1, 11);
        Edges.dueFault("yields (1]=1;", 1, 9);
        Edges.dueFault("yields [];", 1, 8);
        Edges.dueFault("yields ();", 1, 8);
        Edges.dueFault("yields +1=1;", 1, 7);
        Edges.dueFault("yields 1+-1=1;", 1, 9);
        Edges.dueFault("yields 1*=1;", 1, 9);
        Edges.dueFault("yields not;", 1, 10);
        Edges.dueFault("yields or all;", 1, 7);
        Edges.dueFault("yields min(1;2)=1;", 1, 12);
        Edges.dueFault("yields max(,2)=1;", 1, 11);
        Edges.dueFault("yields max(1,)=1;", 1, 13);
        for (String sign : new String[] {"=", "<", ">", "+", "-", "*", "/", ")", "]", ",", ";", "[", " 1", " all"}) {
            Edges.dueFault("yields min" + sign + "1;", 1, sign.startsWith(" ") ? 11 : 10);
            Edges.dueFault("yields 1=max" + sign, 1, sign.startsWith(" ") ? 13 : 12);
        }
    }

    // "4 the 7th of ( [ not that is open at once .., at it"
    private static void sevenOpen() {
        String[] opening = {"(", "[", "not ", "min(", "max(1,", "( ", "[\n"};
        for (String open : opening) {
            boolean sum = open.contains("(");
            String close = sum ? closing(open) : open.contains("[") ? "]" : "";
            String inner = sum ? "1" : "all";
            String behind = sum ? "=1;" : ";";
            for (int n = 1; n <= 6; n++) {
                Edges.dueTaken("yields " + open.repeat(n) + inner + close.repeat(n) + behind, 1);
            }
            int at = 7 + open.length() * 6 + Math.max(0, open.indexOf('('));
            Edges.dueFault("yields " + open.repeat(7) + inner + close.repeat(7) + behind, 4, at);
            Edges.dueFault("yields " + open.repeat(7), 4, at);
            Edges.dueFault("yields " + open.repeat(6), 1, 7 + open.length() * 6);
        }
    }

    private static String closing(String open) {
        return open.equals("min(") ? ",1)" : ")";
    }

    // of each pair, in any order: the seventh is told, whichever it is
    private static void sevenOpenInPairs() {
        String[] facts = {"not ", "["};
        String[] sums = {"(", "min(", "max(1,"};
        for (int outer = 0; outer <= 6; outer++) {
            for (String fact : facts) {
                for (String sum : sums) {
                    String six = "yields " + fact.repeat(outer) + sum.repeat(6 - outer);
                    String ends = closing(sum).repeat(6 - outer) + "=1" + (fact.equals("[") ? "]" : "").repeat(outer);
                    Edges.dueTaken(six + "1" + ends + ";", 1);
                    Edges.dueFault(six + "(1", 4, six.length());
                    Edges.dueFault(six + "max (1", 4, six.length() + 4);
                    if (outer == 6) {
                        Edges.dueFault(six + "[", 4, six.length());
                        Edges.dueFault(six + "not", 4, six.length());
                    } else {
                        Edges.dueFault(six + "[", 1, six.length());
                        Edges.dueFault(six + "not", 1, six.length());
                    }
                }
            }
        }
        Edges.dueTaken("yields not [not [not [all]]];", 1);
        Edges.dueFault("yields not [not [not [not all]]];", 4, 22);
        Edges.dueFault("yields [not [not [not [all]]]];", 4, 22);
    }

    // "open at once (not until its FACT ends)"
    private static void openUntilItsFactEnds() {
        Edges.dueTaken("yields not (((((1)))))=1;", 1);
        Edges.dueFault("yields not ((((((1))))))=1;", 4, 16);
        // the FACT of a not goes on to the end of its second SUM
        Edges.dueFault("yields not 1=((((((1))))));", 4, 18);
        Edges.dueTaken("yields not 1=(((((1)))));", 1);
        Edges.dueFault("yields not not 1+1=1+(((((1)))));", 4, 25);
        Edges.dueTaken("yields not not 1+1=1+((((1))));", 1);
        Edges.dueTaken("yields not 1=1 and ((((((1))))))=1;", 1);
        Edges.dueTaken("yields not 1=1 or ((((((1))))))=1;", 1);
        Edges.dueTaken("yields not all and not not not not not not all;", 1);
        Edges.dueTaken("yields not [all] and [[[[[[all]]]]]];", 1);
        Edges.dueFault("yields not [all] and [[[[[[[all]]]]]]];", 4, 27);
        Edges.dueFault("yields not [all and [[[[[all]]]]]];", 4, 24);
        Edges.dueTaken("yields not [all and [[[[all]]]]];", 1);
        Edges.dueFault("yields not not not [not all and not not all or not not not all];", 4, 55);
        Edges.dueTaken("yields not not not [not all and not not all or not not all];", 1);
    }

    // those that are shut count no more
    private static void manyOneBehindTheOther() {
        Edges.dueTaken("yields (1)" + "+(1)".repeat(20) + "=1;", 1);
        Edges.dueTaken("yields ((((((1))))))" + "*((((((1))))))".repeat(5) + "=((((((1))))));", 1);
        Edges.dueTaken("yields [all]" + " and [all] or [[[[[[all]]]]]]".repeat(9) + ";", 1);
        Edges.dueTaken("yields not all" + " and not all or not not not not not not all".repeat(9) + ";", 1);
        Edges.dueTaken("yields min((((((1))))),2)=1;", 1);
        Edges.dueFault("yields min(((((((1)))))),2)=1;", 4, 16);
        Edges.dueTaken("yields min(1,(((((1)))))+(((((1))))))=1;", 1);
        Edges.dueFault("yields min(1,(((((1)))))+((((((1)))))))=1;", 4, 30);
        Edges.dueFault("yields (1)=(((((((1)))))));", 4, 17);
        Edges.dueFault("yields [all] and [[[[[[[all]]]]]]];", 4, 23);
    }

    // where an opening sign does not fit at all, it is FAULT 1, however many are open
    private static void sevenAtIt() {
        Edges.dueFault("yields ((((((1(", 1, 14);
        Edges.dueFault("yields ((((((1 not", 1, 15);
        Edges.dueFault("yields ((((((min 1", 1, 17);
        Edges.dueFault("yields ((((((min", 1, 16);
        Edges.dueFault("yields ((((((min (", 4, 17);
        Edges.dueFault("yields [[[[[[all[", 1, 16);
        Edges.dueFault("yields [[[[[[all not", 1, 17);
        Edges.dueFault("yields [[[[[[notall", 1, 13);
        Edges.dueFault("yields [[[[[[not", 4, 13);
        Edges.dueFault("yields not not not not not not not1", 4, 31);
    }
}
