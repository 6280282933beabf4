/** Promise 31: questions of all tests, and their FAULTS (promise 5). */
public final class AskTest {
    private static final String TWO = "kind a love 9 wit 0 true 2 false 1;kind b love 1 wit 0 true 1 false 3;test t harm 5;"
        + "test u harm 20;mark m true 8 false 3;first 60;yields truth=1 and love>harm or truth=0 and harm>10;";

    public static void main(String[] args) {
        words();
        values();
        yielding();
        now();
        noWorld();
        notHeld();
        faults();
        open();
        theTape();
        Checks.finish();
    }

    private static void words() {
        KingsTest x = Checks.made("test a harm 7;test b harm 2;test c harm 9;test d harm 7;");
        Checks.dueAsked(x, "first harm=7", 0);
        Checks.dueAsked(x, "last harm=7", 3);
        Checks.dueAsked(x, "often harm=7", 2);
        Checks.dueAsked(x, "first harm=8", -1);
        Checks.dueAsked(x, "last harm=8", -1);
        Checks.dueAsked(x, "often harm=8", 0);
        Checks.dueAsked(x, "first all", 0);
        Checks.dueAsked(x, "last all", 3);
        Checks.dueAsked(x, "often all", 4);
        Checks.dueAsked(x, "first harm>7", 2);
        Checks.dueAsked(x, "last harm<7", 1);
        Checks.dueAsked(x, "total harm", 25);
        Checks.dueAsked(x, "most harm", 9);
        Checks.dueAsked(x, "least harm", 2);
        Checks.dueAsked(x, "total number", 6);
        Checks.dueAsked(x, "most 5-harm", 3);
        Checks.dueAsked(x, "most 0-harm", -2);
        Checks.dueAsked(x, "least 0-harm", -9);
        Checks.dueAsked(x, "total 5", 20);
        Checks.dueAsked(x, "\n often  not\nharm=7 and[number<2 or number>2]", 1);
        Checks.dueAsked(x, "total min(harm,number*4)", 0 + 2 + 8 + 7);
        Checks.dueAsked(x, "total max(harm,number*4)-(number/2)", 7 + 4 + 8 + 11);
        x = new KingsTest();
        Checks.dueAsked(x, "first all", -1);
        Checks.dueAsked(x, "last all", -1);
        Checks.dueAsked(x, "often all", 0);
        Checks.dueAsked(x, "total 5", 0);
        Checks.dueAsked(x, "most 5", 0);
        Checks.dueAsked(x, "least 5", 0);
    }

    private static void values() {
        KingsTest x = Checks.made(TWO);
        Checks.dueAsked(x, "least merit", 861666);
        Checks.dueAsked(x, "most merit", 980000);
        Checks.dueAsked(x, "first merit=980*1000", 1);
        Checks.dueAsked(x, "total harm*100+number", 2501);
    }

    private static void yielding() {
        KingsTest x = Checks.made(TWO);
        // t: a true one of KIND 0; u: false ones of both
        Checks.dueAsked(x, "total yields 0", 2);
        Checks.dueAsked(x, "total yields 1", 1);
        Checks.dueAsked(x, "first yields 1=1", 1);
        Checks.dueAsked(x, "total yields 2", 0);
        Checks.dueAsked(x, "total yields 9999", 0);
        Checks.dueAsked(x, "total yields(0-1)", 0);
        Checks.dueAsked(x, "total yields number", 2);
        Checks.dueAsked(x, "total yields yields 1", 2);
        Checks.dueAsked(x, "total yields 0*10", 20);
        Checks.dueAsked(x, "total yields min(1,number)+5", 12);
        x = Checks.made("kind a love 9 wit 0 true 1 false 1;test t harm 1;yields all;");
        Checks.dueAsked(x, "total yields 0", 2);
        x = Checks.made("kind a love 9 wit 0 true 1 false 1;test t harm 1;");
        Checks.dueAsked(x, "total yields 0", 1);
        Checks.dueAsked(x, "total yields 1", 0);
    }

    private static void now() {
        KingsTest x = Checks.made(TWO);
        Checks.dueAsked(x, "total heard", 0);
        Checks.dueAsked(x, "total sure", 1);
        Checks.dueAsked(x, "first sure=1", 1);
        x.hear(0, 0, 0);
        Checks.dueAsked(x, "total heard", 0);
        Checks.dueAsked(x, "least merit", 0);
        Checks.dueAsked(x, "most merit", 980000);
        Checks.dueAsked(x, "total sure", 1);
        x.judge(0);
        Checks.dueAsked(x, "total heard*10+number", 11);
        Checks.dueAsked(x, "least merit", 861666);
        x.hear(0, 1, 0);
        // RIGHT is all already, but a test that is heard is none that can be SURE
        Checks.due("20: none is needed", x.sure(0), 0);
        Checks.dueAsked(x, "total sure", 1);
        Checks.dueAsked(x, "first sure=1", 1);
        x.hear(1, 0, 1);
        Checks.dueAsked(x, "total sure", 0);
        x.undo();
        Checks.dueAsked(x, "total sure*10+number", 11);
        x.undo();
        Checks.dueAsked(x, "total sure", 1);
        x.hear(0, 1, 0);
        Checks.dueAsked(x, "total merit", 980000);
        x.judge(0);
        Checks.dueAsked(x, "often sure=1 or sure=0", 2);
        Checks.dueAsked(x, "total sure", 1);
        // heard by an image
        Checks.onChecked(x, 0, 0, 0, 0, 0, 2, 0, 0, 0, 0);
        Checks.dueAsked(x, "total sure", 1);
        Checks.dueAsked(x, "last sure=1", 1);
    }

    private static void noWorld() {
        KingsTest x = Checks.made("kind a love 9 wit 0 true 0 false 1;test t harm 5;");
        Checks.dueAsked(x, "total merit", 0);
        Checks.dueAsked(x, "total sure", 0);
        Checks.dueAsked(x, "total yields 0", 1);
        x = Checks.made("kind a love 9 wit 0 true 1 false 1;test t harm 5;test u harm 6;");
        Checks.onChecked(x, 0, 0, 0, 0, 7, 4, 8, 0);
        Checks.dueAsked(x, "total merit", 0);
        Checks.dueAsked(x, "total sure", 0);
        Checks.dueAsked(x, "total heard", 15);
    }

    private static void notHeld() {
        KingsTest x = Checks.made("test a harm 7;test b harm 2;test c harm 9;test d harm 7;test e harm 1;test f harm 1;");
        Checks.dueAsked(x, "total 9999*9999", 6000000);
        Checks.dueAsked(x, "total 0-9999*9999", -6000000);
        Checks.dueAsked(x, "most 9999*9999+1", 1000000);
        Checks.dueAsked(x, "total 7/2", 18);
        Checks.dueAsked(x, "total (0-7)/2", -24);
        Checks.dueAsked(x, "total 7/0", 0);
    }

    private static void faults() {
        KingsTest x = Checks.made(TWO);
        Checks.dueAskFault(x, "", 1, 0);
        Checks.dueAskFault(x, "  ", 1, 2);
        Checks.dueAskFault(x, "every all", 1, 0);
        Checks.dueAskFault(x, " kind all", 1, 1);
        Checks.dueAskFault(x, "First all", 1, 0);
        Checks.dueAskFault(x, "5", 1, 0);
        Checks.dueAskFault(x, "first", 1, 5);
        Checks.dueAskFault(x, "firstall", 1, 0);
        Checks.dueAskFault(x, "first 5", 1, 7);
        Checks.dueAskFault(x, "total all", 1, 6);
        Checks.dueAskFault(x, "total 5=5", 1, 7);
        Checks.dueAskFault(x, "total not 5", 1, 6);
        Checks.dueAskFault(x, "first all;", 1, 9);
        Checks.dueAskFault(x, "first all all", 1, 10);
        Checks.dueAskFault(x, "total 5 5", 1, 8);
        Checks.dueAskFault(x, "total 5)", 1, 7);
        Checks.dueAskFault(x, "total 5 ?", 1, 8);
        Checks.dueAskFault(x, "total 12345", 1, 10);
        Checks.dueAskFault(x, "total5", 1, 5);
        Checks.dueAskFault(x, "total 5harm", 1, 7);
        Checks.dueAskFault(x, "total yields", 1, 12);
        Checks.dueAskFault(x, "total yields+1", 1, 12);
        Checks.dueAskFault(x, "first merit<940000", 1, 16);
        for (String word : new String[] {"love", "wit", "truth", "true", "first", "harmx", "a", "kind"}) {
            Checks.dueAskFault(x, "total " + word, 1, 6);
        }
        KingsTest z = new KingsTest();
        Checks.dueAskFault(z, "total 5 5", 1, 8);
        Checks.due("35: no refusal", z.status(1), 0);
    }

    private static void open() {
        KingsTest x = Checks.made(TWO);
        Checks.dueAsked(x, "total yields yields yields yields yields yields 0", 1);
        Checks.dueAskFault(x, "total yields yields yields yields yields yields yields 0", 4, 48);
        Checks.dueAsked(x, "total ((((((1))))))", 2);
        Checks.dueAskFault(x, "total (((((((1)))))))", 4, 12);
        Checks.dueAsked(x, "often not not not not not not all", 2);
        Checks.dueAskFault(x, "often not not not not not not not all", 4, 30);
        Checks.dueAskFault(x, "often [[not[not(yields(1))=1]]]", 4, 16);
        Checks.dueAskFault(x, "often [[not[(yields(1))=1]]]", 4, 19);
        Checks.dueAsked(x, "often [[not[(yields 1)=1]]]", 1);
        Checks.dueAsked(x, "total yields 0+yields 0+yields 0+yields 0+yields 0+yields 0+yields 0+yields(0)", 16);
        Checks.dueAskFault(x, "total min(min(min(min(min(min(min(1", 4, 33);
    }

    private static void theTape() {
        KingsTest x = Checks.made(TWO);
        Checks.dueAsked(x, "total 5", 10);
        Checks.due("31: the tape goes", x.feed(0, 0, 0, 0, 0), 20);
        Checks.dueAskFault(x, "x", 1, 0);
        Checks.due("31: the tape goes, refused or not", x.feed(0, 0, 0, 0, 0), 20);
        Checks.due("31: the court stays", x.has(0), 2);
        Checks.dueFault(x, "first 0;", 2, 6);
        Checks.dueAsked(x, "total 5", 10);
        Checks.dueAskFault(x, "x", 1, 0);
        x.end(0);
        Checks.due("4: a court", x.court(), 0);
        Checks.due("5: of the latest", x.fault(0), 0);
        Checks.due("5: of the latest", x.fault(1), -1);
    }
}
