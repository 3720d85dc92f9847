/** The terms of the document: words and finding, messages, faults, answers, events, sum. */
public final class TermsTest {
    private static final int NONE = BenchOrders.NONE;

    private TermsTest() {
    }

    public static void main(String[] args) {
        wordsFit();
        findingGoesBackAndRises();
        findingLeftOut();
        suffixes();
        findingEndsSoon();
        findingAtTheDeepest();
        unitsThatCannotStand();
        unitsThatCan();
        values();
        branchOfAMessage();
        wordsWithTheBranch();
        orderOfFaults();
        outOfRange();
        slowActs();
        commonWords();
        commonForms();
        clearStatus();
        resetStays();
        operationComplete();
        answersOverflow();
        faultsOverflow();
        eventsOfFaults();
        sums();
        Bench.end();
    }

    private static void due(String what, long got, long want) {
        Bench.due(what, got, want);
    }

    private static void wordsFit() {
        Bench b = new Bench();
        b.node(0, "SOURce", 1, 3, 0);
        b.node(0, "CURR", 1, 0, 0);
        String[] right = {"SOUR", "sour", "sOuR", "SOURCE", "source", "SOURce", "SOUR1", "source3", "Source2"};
        for (String word : right) {
            due(word, b.finds(word), 1);
        }
        String[] wrong = {"SOU", "SOURC", "SOURCES", "SOUR4", "SOUR9", "SOURCE4", "TOUR", "SOURCF", "CURR1", "CUR", "CURRE"};
        for (String word : wrong) {
            due(word, b.finds(word), NONE);
        }
        due("MOST 0", b.finds("curr"), 2);
        b.node(0, "AZaz", 2, 0, 0);
        due("the last letters", b.finds("azAZ"), 3);
        due("the last letters, short", b.finds("aZ"), 3);
        due("others", b.finds("azAY"), NONE);
        b.dueAlone("SOUR9 1", 0, -113);
        b.dueAlone("SOUR0 1", 0, -102);
    }

    private static void findingGoesBackAndRises() {
        Bench b = new Bench();
        b.node(0, "A", 0, 0, 0);
        b.node(0, "A", 0, 0, 0);
        b.node(1, "X", 2, 0, 0);
        b.node(2, "X", 2, 0, 0);
        b.node(2, "Y", 2, 0, 0);
        b.node(1, "X", 2, 0, 0);
        due("the first that fits", b.finds("A:X"), 3);
        due("back out of the first", b.finds("A:Y"), 5);
        Bench c = new Bench();
        c.node(0, "L", 0, 0, 1);
        c.node(1, "X", 2, 0, 0);
        c.node(0, "X", 2, 0, 0);
        due("one that FITS is ahead of one LEFT OUT", c.finds("X"), 3);
        due("told, not left out", c.finds("L:X"), 2);
        c.node(0, "X", 0, 0, 0);
        c.node(4, "X", 2, 0, 0);
        due("a BRANCH that leads nowhere is passed", c.finds("X"), 3);
        due("two words", c.finds("X:X"), 5);
        Bench d = new Bench();
        d.node(0, "X", 0, 0, 0);
        d.node(0, "L", 0, 0, 1);
        d.node(2, "X", 2, 0, 0);
        due("LEFT OUT once what FITS failed", d.finds("X"), 3);
    }

    private static void findingLeftOut() {
        Bench b = new Bench();
        b.node(0, "A", 0, 0, 0);
        b.node(1, "B", 0, 0, 1);
        b.node(1, "C", 2, 0, 1);
        due("an empty BRANCH is passed", b.finds("A"), 3);
        b.node(2, "D", 2, 0, 1);
        due("rising", b.finds("A"), 4);
        due("LEFT OUT may be told", b.finds("A:C"), 3);
        due("or in the middle", b.finds("A:D"), 4);
        due("an ACT has no children", b.finds("A:C:D"), NONE);
        Bench c = new Bench();
        c.node(0, "V", 1, 3, 1);
        c.node(0, "A", 0, 0, 1);
        c.node(2, "A", 0, 0, 1);
        c.node(3, "A", 2, 0, 0);
        due("WORDS behind a VALUE", c.finds("V:A"), NONE);
        due("one word for the last", c.finds("A"), 4);
        due("two", c.finds("A:A"), 4);
        due("three", c.finds("A:A:A"), 4);
        due("four", c.finds("A:A:A:A"), NONE);
    }

    private static void suffixes() {
        Bench b = new Bench();
        b.node(0, "B", 0, 3, 0);
        b.node(1, "V", 1, 3, 1);
        due("sends", b.sends("B2 5;B2:V3 6;:B3:V 7"), 3);
        due("LEFT OUT behind the WORD: 1", b.it.value(2, 1), 7);
        due("not that of the BRANCH", b.it.value(2, 2), 0);
        due("the last WORD", b.it.value(2, 3), 6);
        b.sends("*RST;:B2 5;:B:V2 8;B2:V3?;:B3?;:B2:V?;:B:V2?");
        due("kept", b.it.value(2, 1), 5);
        due("told", b.it.value(2, 2), 8);
        b.dueFaults("the BRANCH stays in front", -113);
        b.sends("*CLS;:B3?;:B2:V?;:B:V2?");
        b.dueAnswers("questions", 5, 5, 8);
        Bench c = new Bench();
        c.node(0, "B", 0, 3, 1);
        c.node(1, "V", 1, 3, 0);
        c.sends("V2 4");
        due("LEFT OUT ahead of the WORD counts for nothing", c.it.value(2, 2), 4);
    }

    private static void findingEndsSoon() {
        Bench b = new Bench();
        for (int n = 0; n < 15; n++) {
            b.node(n, "A", 0, 3, 1);
        }
        for (int i = 0; i < 20; i++) {
            due("a chain of like names", b.finds("A:A:A:A"), NONE);
        }
    }

    private static void findingAtTheDeepest() {
        Bench b = new Bench();
        for (int n = 0; n < 14; n++) {
            b.node(n, "L", 0, 0, 1);
        }
        b.node(14, "V", 1, 3, 1);
        due("all LEFT OUT but the last", b.finds("V3"), 15);
        due("some told", b.finds("L:L:L:V"), 15);
        due("LEFT OUT behind the WORDS", b.finds("L:L:L:L"), 15);
        b.dueAlone("V3 7;V2 6;V 5", 3);
        for (int s = 1; s <= 3; s++) {
            due("its numbers", b.it.value(15, s), 4 + s);
        }
    }

    private static Bench valueAndAct() {
        Bench b = new Bench();
        b.node(0, "X", 1, 3, 0);
        b.node(0, "A", 2, 3, 0);
        return b;
    }

    private static void unitsThatCannotStand() {
        String[] wrong = {
            "", " ", "   ", ";", " ; ", ":", "::X 1", ": X 1", "X: 1", "X : X", "X ?", "X?5", "X??", "X?? 1", "X ? 1", "X1 1 1",
            "X +", "X -", "X +-1", "X 1+", "X 1 K", "X K", "X 1KK", "X 1M", "X +ON", "X ONK", "X ON1", "X O", "X OF", "X ONN",
            "X OFFF", "X AN", "X NO", "X AFF", "X 1234567", "X 0000001", "X -1234567K", "X 1.5", "X 1,2", "X\t1",
            "X 1\t", "\tX 1", "X12 1", "X0 1", "X10 1",
            "1", "1 X", "?", "X+1", "X-1", "X,1", "ABCDEFGHI 1", "X:ABCDEFGHI", "A:B:C:D:E", ":A:B:C:D:E", "A:B:C:D:", "*", "* CLS",
            "*CLS1", "*ABCDEFGHI", "**CLS", ":*CLS", "*CLS:X", "*CLS ?", "*ESE5", "*ESE?5", "X:*CLS", "X 1 ?", "X @", "X [", "@", "[",
            "X \u0000", "\u007f", "A ON OFF", "A2:", "X  ;", "X 1K0", "X #1"
        };
        for (String message : wrong) {
            boolean isMissing = message.equals("X  ;");
            Bench each = valueAndAct();
            each.dueSent(message, 0, isMissing ? -109 : -102);
            each.dueAnswers("behind '" + message + "'");
            each.dueNumbers("behind '" + message + "'", 1, 0, 0, 0);
        }
        Bench b = valueAndAct();
        b.dueAlone("X 1;", 1, -102);
        b.dueAlone("X 2; ", 1, -102);
        b.dueAlone("X 3;;X 4", 1, -102);
        due("the rest is not done", b.it.value(1, 1), 3);
    }

    private static void unitsThatCan() {
        Bench b = new Bench();
        b.node(0, "ABCDefgh", 1, 3, 0);
        b.node(0, "A", 0, 3, 0);
        b.node(2, "B", 0, 3, 0);
        b.node(3, "C", 0, 3, 0);
        b.node(4, "D", 2, 3, 0);
        String[] right = {
            "ABCD 1", "abcdefgh 1", " ABCD 1", "   ABCD   1   ", ":ABCD 1", " :abcdEFGH3 1", "A:B:C:D", ":a1:b2:c3:d3", " A:B:C:D ",
            "*cls", " *CLS ", "*Opc", "*ESE   7  ", "*eSe On", "*sre oFf", "ABCD +5", "ABCD -0", "ABCD 000005", "ABCD 9k"
        };
        for (String message : right) {
            b.dueAlone(message, 1);
        }
        b.dueAlone(" A:B:C:D ; :ABCD 2 ;*CLS ;ABCD 3", 4);
        due("set last", b.it.value(1, 1), 3);
    }

    private static void values() {
        Bench b = new Bench();
        b.node(0, "X", 1, 0, 0);
        b.it.range(1, -9999, 9999);
        String[] told = {"7", "+7", "-7", "0", "-0", "+0", "000012", "9K", "-9k", "+1K", "0K", "ON", "on", "oN", "OFF", "Off", "9999", "-9999"};
        int[] want = {7, 7, -7, 0, 0, 0, 12, 9000, -9000, 1000, 0, 1, 1, 1, 0, 0, 9999, -9999};
        for (int i = 0; i < told.length; i++) {
            b.dueAlone("X " + told[i], 1);
            due("X " + told[i], b.it.value(1, 1), want[i]);
        }
        String[] far = {"10000", "-10000", "10K", "-10K", "999999", "999999K", "-999999k"};
        for (String number : far) {
            b.dueAlone("X " + number, 1, -222);
            due("X " + number, b.it.value(1, 1), -9999);
        }
    }

    private static void branchOfAMessage() {
        Bench b = new Bench();
        b.node(0, "S", 0, 2, 0);
        b.node(1, "V", 1, 3, 0);
        b.node(1, "C", 0, 0, 0);
        b.node(3, "L", 1, 3, 0);
        b.node(0, "V", 2, 0, 0);
        b.dueAlone("S:V 1;V2 2;C:L 3;L2 4;:V;V", 6);
        due("S:V", b.it.value(2, 1), 1);
        due("V2 with the BRANCH", b.it.value(2, 2), 2);
        due("C:L with the BRANCH", b.it.value(4, 1), 3);
        due("L2 with the BRANCH of two", b.it.value(4, 2), 4);
        due("with : ahead none, and none behind it", b.it.of(5, 8), 2);
        b.dueAlone("S:V 1;S:V 2", 1, -113);
        b.dueAlone("V;S:V 9", 2);
        b.dueAlone("V 1", 0, -108);
        b.dueAlone("S:V 5;*CLS;*OPC;V 6", 4);
        due("COMMON ones leave the BRANCH", b.it.value(2, 1), 6);
        b.dueAlone("S:V 10000;V 7", 2, -222);
        due("found, though out of range", b.it.value(2, 1), 7);
        b.dueAlone("S2:V 3;V3 8", 2);
        due("figures of the BRANCH stay", b.it.value(2, 3), 8);
        b.dueAlone("S:V 1", 1);
        b.dueAlone("V2 1", 0, -113);
        due("each MESSAGE begins without", b.it.value(2, 2), 2);
    }

    private static void wordsWithTheBranch() {
        Bench b = new Bench();
        for (int n = 0; n < 6; n++) {
            b.node(n, "N", 0, 0, 0);
        }
        b.node(3, "A", 2, 0, 0);
        b.node(5, "A", 2, 0, 0);
        b.node(6, "A", 2, 0, 0);
        b.dueAlone("N:N:N:A;A", 2);
        b.dueAlone("N:N:N:A;N:N:A", 2);
        b.dueAlone("N:N:N:A;N:N:A;A", 3);
        b.dueAlone("N:N:N:A;N:N:N:A", 1, -102);
        b.dueAlone("N:N:N:A;N:N:A;N:A", 2, -102);
        b.dueAlone("N:N:N:A;N:N:A;Q:Q", 2, -102);
        b.dueAlone("N:N:N:A;N:N:A;Q", 2, -113);
        b.dueAlone("N:N:N:A;N:N:A;:N:N:N:A", 3);
        b.dueAlone("N:N:N:N:A", 0, -102);
        b.dueAlone("N:N:N:A;N:N:N:N:A", 1, -102);
    }

    private static void orderOfFaults() {
        Bench b = new Bench();
        b.node(0, "V", 1, 0, 0);
        b.node(0, "A", 2, 0, 0);
        b.node(0, "S", 3, 0, 0);
        b.dueAlone("Q 1 1", 0, -102);
        b.dueAlone("Q? 1", 0, -113);
        b.dueAlone("Q", 0, -113);
        b.dueAlone("V? 10000", 0, -108);
        b.dueAlone("V", 0, -109);
        b.dueAlone("A 1", 0, -108);
        b.dueAlone("A? 1", 0, -108);
        b.dueAlone("S ON", 0, -108);
        b.dueAlone("S? OFF", 0, -108);
        b.dueAlone("*FOO 1 1", 0, -102);
        b.dueAlone("*FOO 1", 0, -113);
        b.dueAlone("*CLS? 1", 0, -113);
        b.dueAlone("*ESR 1", 0, -113);
        b.dueAlone("*ESE? 256", 0, -108);
        b.dueAlone("*ESE", 0, -109);
        b.dueAlone("V 10000 1", 0, -102);
        b.dueAlone("V1 10000", 0, -113);
        due("no ACT was done", b.it.of(2, 8) + b.it.of(3, 8), 0);
        b.dueTold("by a MESSAGE nothing counts", 0, 0, 0);
    }

    private static void outOfRange() {
        Bench b = new Bench();
        b.node(0, "V", 1, 0, 0);
        b.it.range(1, -5, 50);
        b.dueAlone("V 50", 1);
        due("HIGH", b.it.value(1, 1), 50);
        b.dueAlone("V 51;V?", 2, -222);
        b.dueAlone("V -5", 1);
        due("LOW", b.it.value(1, 1), -5);
        b.dueAlone("V -6", 1, -222);
        due("nothing is set", b.it.value(1, 1), -5);
        b.dueAnswers("the MESSAGE goes on", 50);
    }

    private static void slowActs() {
        Bench b = new Bench();
        b.node(0, "S", 3, 3, 0);
        b.node(0, "T", 3, 0, 0);
        b.dueAlone("S;T;S2;S3;T;S", 6, -222, -222);
        b.dueState("four PENDING", 9, 4);
        due("how often S", b.it.of(1, 8), 3);
        due("how often T", b.it.of(2, 8), 1);
        b.it.finishes(3);
        b.dueAlone("T;S?;T?", 3);
        b.dueAnswers("how often", 3, 2);
        due("behind the others", b.it.pending(3), 2);
    }

    private static void commonWords() {
        Bench b = new Bench();
        b.node(0, "S", 3, 0, 0);
        b.dueAlone("*ESE 255;*ESE?;*SRE 255;*SRE?", 4);
        b.dueAnswers("masks", 255, 255);
        b.takeAnswers();
        b.dueAlone("*ESE -1;*ESE 256;*SRE -1;*SRE 1K", 4, -222, -222, -222, -222);
        b.dueState("ESE stays", 1, 255);
        b.dueState("SRE stays", 2, 255);
        b.dueAlone("*ESE 0;*SRE 0;*CLS;*OPC?;S;*OPC?", 6);
        b.dueAnswers("OPC?", 1, 0);
        b.takeAnswers();
        b.dueSent("*OPC;S 1", 1, -108);
        b.dueSent("*CLS;*ESE 1;*ESR?;*STB?;*STB?", 5);
        b.dueAnswers("STB? ahead of its ANSWER", 0, 16, 16);
        b.takeAnswers();
        b.dueSent("*STB?;Q", 1, -113);
        b.dueAnswers("nothing yet", 0);
        b.takeAnswers();
        b.dueSent("*ESR?;*ESR?", 2, -113);
        b.dueAnswers("ESR? takes them", 32, 0);
    }

    private static void commonForms() {
        Bench b = new Bench();
        String[] wrong = {"*CLS?", "*RST?", "*ESR", "*STB", "*FOO", "*FOO?", "*CL", "*CLSS", "*C", "*ESEE 1", "*IDN?", "*ABCDEFGH",
            "*XLS", "*XSE 1", "*XRE 1", "*XSR?", "*XTB?", "*XPC", "*XST"};
        for (String message : wrong) {
            b.dueAlone(message, 0, -113);
        }
        String[] unwanted = {"*CLS 1", "*RST 1", "*ESR? 1", "*STB? 1", "*OPC 1", "*OPC? 1", "*ESE? 1", "*SRE? 1"};
        for (String message : unwanted) {
            b.dueAlone(message, 0, -108);
        }
        b.dueAlone("*ESE", 0, -109);
        b.dueAlone("*SRE", 0, -109);
    }

    private static void clearStatus() {
        Bench b = new Bench();
        b.node(0, "S", 3, 0, 0);
        b.node(0, "V", 1, 0, 0);
        b.it.condition(1, 1);
        b.sends("*ESE 3;*SRE 5;V 6;V?;S;*OPC;V 10000;Q");
        b.sends("*CLS");
        int[] want = {0, 3, 5, 16, 2, 0, 15, 0, 0, 1, 0, 1, 0, 3};
        for (int what = 0; what < want.length; what++) {
            b.dueState("behind CLS", what, want[what]);
        }
        due("VALUES stay", b.it.value(2, 1), 6);
        b.it.finishes(0);
        b.dueState("WAITING is gone", 0, 0);
    }

    private static void resetStays() {
        Bench b = new Bench();
        b.node(0, "S", 3, 0, 0);
        b.node(0, "V", 1, 3, 0);
        b.it.range(2, -4, 9);
        b.it.condition(1, 1);
        b.sends("*ESE 3;*SRE 5;V 6;V2 7;V3 8;V?;S;S;*OPC;V 10000;Q");
        b.sends("*RST");
        int[] want = {48, 3, 5, 4 + 16 + 64, 2, 2, 15, 0, 0, 0, 0, 1, 2, 3};
        for (int what = 0; what < want.length; what++) {
            b.dueState("behind RST", what, want[what]);
        }
        for (int s = 1; s <= 3; s++) {
            due("LOW", b.it.value(2, s), -4);
        }
        due("how often stays", b.it.of(1, 8), 2);
    }

    private static void operationComplete() {
        Bench b = new Bench();
        b.node(0, "S", 3, 0, 0);
        b.sends("*OPC");
        b.dueState("at once", 0, 1);
        b.dueState("not WAITING", 10, 0);
        b.sends("*CLS;S;*OPC;S");
        b.dueState("not yet", 0, 0);
        b.dueState("WAITING", 10, 1);
        b.it.finishes(0);
        b.dueState("one is left", 0, 0);
        b.it.finishes(0);
        b.dueState("all are over", 0, 1);
        b.dueState("WAITING no more", 10, 0);
        b.sends("*CLS;S;*OPC;Q");
        b.it.finishes(0);
        b.dueState("beside the others", 0, 33);
        b.sends("*CLS;Q");
        b.sends("*OPC");
        b.dueState("at once, beside the others", 0, 33);
    }

    private static void answersOverflow() {
        Bench b = new Bench();
        b.node(0, "V", 1, 0, 0);
        b.dueSent("V 3;V?;V?;V?;V?;V?;V?", 7);
        b.dueSent("V 4;V?;V 5", 3, -430);
        b.dueAnswers("the seventh is lost", 3, 3, 3, 3, 3, 3);
        due("the MESSAGE goes on", b.it.value(1, 1), 5);
        b.dueState("EVENT 4", 0, 4);
        b.sends("V 10000;*ESR?");
        b.dueState("0 ahead of the ANSWER that is lost", 0, 4);
        b.dueFaults("two lost", -430, -222, -430);
        b.sends("*ESR?;*ESR?");
        b.dueState("with the loss of the FAULT", 0, 12);
    }

    private static void faultsOverflow() {
        Bench b = new Bench();
        b.node(0, "V", 1, 0, 0);
        b.dueSent("V 10000;V -1;V 10000;Q", 3, -222, -222, -222, -113);
        b.dueState("no loss yet", 0, 48);
        b.dueSent("V 10000;V 5", 2, -222, -222, -222, -350);
        b.dueState("8 besides", 0, 56);
        due("the MESSAGE goes on", b.it.value(1, 1), 5);
        b.dueSent("Q", 0, -222, -222, -222, -350);
        due("first", b.it.fault(), -222);
        b.dueSent("Q", 0, -222, -222, -350, -113);
        b.sends("*ESR?");
        b.sends("Q;V 6");
        b.dueState("the lost one's event, too", 0, 40);
        due("lost, but it ends the MESSAGE", b.it.value(1, 1), 5);
    }

    private static void eventsOfFaults() {
        String[] messages = {"", "Q", "V? 1", "V", "V 10000"};
        int[] events = {32, 32, 32, 32, 16};
        for (int i = 0; i < messages.length; i++) {
            Bench b = new Bench();
            b.node(0, "V", 1, 0, 0);
            b.sends(messages[i]);
            b.dueState("EVENT of '" + messages[i] + "'", 0, events[i]);
        }
    }

    private static void sums() {
        Bench b = new Bench();
        b.node(0, "V", 1, 0, 0);
        b.sends("Q");
        b.dueState("FAULTS", 3, 4);
        b.sends("*SRE 4");
        b.dueState("FAULTS in SRE", 3, 68);
        b.sends("*SRE 64");
        b.dueState("64 of SRE counts for nothing", 3, 4);
        b.sends("*SRE 251");
        b.dueState("all but FAULTS in SRE", 3, 4);
        b.sends("*CLS;V?");
        b.dueState("ANSWERS", 3, 80);
        b.sends("*SRE 239");
        b.dueState("all but ANSWERS in SRE", 3, 16);
        b.takeAnswers();
        b.sends("*ESE 254;*OPC");
        b.dueState("not in ESE", 3, 0);
        b.sends("*ESE 1");
        b.dueState("EVENTS", 3, 96);
        b.sends("*SRE 223");
        b.dueState("all but EVENTS in SRE", 3, 32);
        b.sends("*CLS");
        b.it.condition(3, 1);
        b.it.masks(2, 7);
        b.dueState("not in ENABLE", 3, 0);
        b.it.masks(2, 8);
        b.dueState("EDGES", 3, 192);
        b.sends("*SRE 127");
        b.dueState("all but EDGES in SRE", 3, 128);
    }
}
