/** The edges that the document names of THE TEXT, MESSAGES, UNITS, VALUES and the BRANCH (promises 6 to 8). */
public final class MessageEdgesTest {
    private static final int NONE = BenchOrders.NONE, BAD = BenchOrders.BAD, FULL = BenchOrders.FULL;
    private static final int BRANCH = 0, VALUE = 1, ACT = 2, SLOW = 3;

    private MessageEdgesTest() {
    }

    public static void main(String[] args) {
        aByteIs0To127();
        theTextHas100Bytes();
        clearEmptiesTheText();
        aMessageOf100Bytes();
        theMostUnits();
        aUnitWithoutAnything();
        lettersAreLettersAlone();
        blanksAre32Alone();
        blanksAheadAndBehind();
        noBlankWithinAUnit();
        aBlankAheadOfItsValue();
        theQuestionIsAtOnceBehind();
        commonLettersAre1To8();
        commonWordsInWhateverCase();
        colonsBetweenAndAhead();
        aHeaderHas4Words();
        withTheBranch6Words();
        aValueHas1To6Figures();
        signsOfAValue();
        stepsOfAValue();
        onAndOff();
        noBranchAtFirst();
        theBranchIsOfTheLatestFound();
        colonAheadTakesNoBranch();
        commonOnesLeaveTheBranch();
        theBranchKeepsItsFigures();
        theBranchIsAsItWasTold();
        sendsLeavesTheText();
        Bench.end();
    }

    private static void due(String what, long got, long want) {
        Bench.due(what, got, want);
    }

    private static Bench oneValue() {
        Bench b = new Bench();
        b.node(0, "V", VALUE, 3, 0);
        return b;
    }

    private static Bench oneAct() {
        Bench b = new Bench();
        b.node(0, "A", ACT, 3, 0);
        return b;
    }

    private static Bench fullText() {
        return oneValue().text("V".repeat(100));
    }

    private static void aByteIs0To127() {
        Bench b = new Bench();
        due("0", b.it.type(0), 1);
        due("127", b.it.type(127), 2);
        int[] wrong = {-1, 128, 255, 256, -128, 0x141, Bench.LEAST, Bench.GREATEST};
        for (int c : wrong) {
            Bench.dueRefused("type(" + c + ")", MessageEdgesTest::oneValue, BAD, x -> x.type(c));
        }
    }

    private static void theTextHas100Bytes() {
        Bench b = new Bench();
        for (int i = 1; i <= 100; i++) {
            due("byte " + i, b.it.type('V'), i);
        }
        due("one more", b.it.type('V'), FULL);
        due("one more again", b.it.type(0), FULL);
        due("BAD is ahead of FULL", b.it.type(128), BAD);
        due("BAD below is ahead of FULL", b.it.type(-1), BAD);
        due("bytes", b.it.told(3), 100);
        b.dueTold("full", 2, 0, 2);
        Bench.dueRefused("the 101st byte", MessageEdgesTest::fullText, FULL, x -> x.type('V'));
        Bench c = fullText();
        c.it.type(';');
        due("the refused byte is not there", c.it.sends(), 0);
        c.dueFaults("9 letters", -102);
    }

    private static void clearEmptiesTheText() {
        Bench b = fullText();
        due("100", b.it.clear(), 100);
        due("empty", b.it.clear(), 0);
        due("anew", b.it.type('V'), 1);
        due("one", b.it.clear(), 1);
        b.dueTold("clear is never refused", 0, 0, 0);
        due("no STATES by type and clear", b.it.told(4), 1);
        Bench c = oneValue();
        c.text("V 5;V 6");
        c.text("V 7");
        due("the old bytes are gone", c.it.sends(), 1);
        due("the new ones", c.it.value(1, 1), 7);
        c.it.clear();
        due("nothing of it is left", c.it.sends(), 0);
        c.dueFaults("an empty MESSAGE", -102);
        Bench d = oneValue();
        String[] longer = {"V 7K", "V 77", "V 7?", "V 7;V", "V 7 7"};
        for (String message : longer) {
            d.text(message);
            d.text("V 7");
            due("a byte behind the end is not there", d.it.sends(), 1);
            due("7", d.it.value(1, 1), 7);
        }
    }

    private static void aMessageOf100Bytes() {
        String[] right = {"V" + " ".repeat(98) + "7", "V 7" + " ".repeat(97), " ".repeat(97) + "V 7"};
        for (String message : right) {
            Bench b = oneValue();
            due("bytes", b.text(message).it.told(3), 100);
            due("100 bytes", b.it.sends(), 1);
            b.dueFaults("100 bytes");
            due("7", b.it.value(1, 1), 7);
        }
        Bench asked = oneValue();
        asked.dueSent(" ".repeat(98) + "V?", 1);
        asked.dueAnswers("? at the end", 0);
        Bench last = oneValue();
        last.dueSent(" ".repeat(96) + "V 7;", 1, -102);
        Bench word = oneValue();
        word.dueSent(" ".repeat(98) + "V3", 0, -109);
        Bench blanks = oneValue();
        blanks.dueSent(" ".repeat(100), 0, -102);
        Bench star = oneValue();
        star.dueSent(" ".repeat(99) + "*", 0, -102);
        Bench common = oneValue();
        common.dueSent(" ".repeat(96) + "*CLS", 1);
        Bench thousand = oneValue();
        thousand.dueSent(" ".repeat(96) + "V 7K", 1);
        due("K at the end", thousand.it.value(1, 1), 7000);
        Bench colon = oneValue();
        colon.dueSent(" ".repeat(98) + "V:", 0, -102);
    }

    private static void theMostUnits() {
        Bench b = oneAct();
        due("50 UNITS", b.sends("A" + ";A".repeat(49)), 50);
        b.dueFaults("50 UNITS");
        due("each was done", b.it.of(1, 8), 50);
        Bench c = oneAct();
        due("50 UNITS and ;", c.sends("A;".repeat(50)), 50);
        c.dueFaults("behind the last ;", -102);
        Bench d = oneAct();
        due("100 ;", d.sends(";".repeat(100)), 0);
        d.dueFaults("one FAULT, it ends the MESSAGE", -102);
    }

    private static void aUnitWithoutAnything() {
        String[] empty = {"", " ", "  ", ";", " ;", "; ", ";;", ";A", " ; A"};
        for (String message : empty) {
            oneAct().dueSent(message, 0, -102);
        }
        String[] behindOne = {"A;", "A; ", "A;;", "A;;A", "A; ;A", "A ; ; A", "A;  "};
        for (String message : behindOne) {
            Bench b = oneAct();
            b.dueSent(message, 1, -102);
            due("done once", b.it.of(1, 8), 1);
        }
        Bench b = oneAct();
        b.dueSent("A;A;A;;A", 3, -102);
        due("its rest is not done", b.it.of(1, 8), 3);
    }

    private static void lettersAreLettersAlone() {
        for (int c = 0; c <= 127; c++) {
            char sign = (char) c;
            boolean isLetter = c >= 'A' && c <= 'Z' || c >= 'a' && c <= 'z';
            new Bench().dueSent(String.valueOf(sign), 0, isLetter ? -113 : -102);
            new Bench().dueSent("*" + sign, 0, isLetter ? -113 : -102);
            new Bench().dueSent("Q:" + sign, 0, isLetter ? -113 : -102);
            boolean isFigure = c >= '1' && c <= '9';
            boolean ends = c == ' ' || c == ';' || c == '?';
            new Bench().dueSent("Q" + sign, 0, isLetter || isFigure || ends ? -113 : -102);
            new Bench().dueSent("*Q" + sign, 0, isLetter || ends ? -113 : -102);
        }
    }

    private static void blanksAre32Alone() {
        for (int c = 0; c <= 127; c++) {
            char sign = (char) c;
            Bench between = oneValue();
            between.sends("V" + sign + "5");
            due("byte " + c + " ahead of the VALUE", between.it.value(1, 1), c == ' ' ? 5 : 0);
            Bench ahead = oneValue();
            ahead.sends(sign + "V 5");
            due("byte " + c + " ahead of the UNIT", ahead.it.value(1, 1), c == ' ' || c == ':' ? 5 : 0);
            Bench behind = oneValue();
            behind.sends("V 5" + sign);
            int figure = c >= '0' && c <= '9' ? 50 + c - '0' : 0;
            int thousand = c == 'K' || c == 'k' ? 5000 : figure;
            due("byte " + c + " behind the UNIT", behind.it.value(1, 1), c == ' ' || c == ';' ? 5 : thousand);
        }
    }

    private static void blanksAheadAndBehind() {
        String[] right = {"A", " A", "A ", "  A  ", ":A", " :A ", "A2 "};
        for (String message : right) {
            oneAct().dueSent(message, 1);
        }
        String[] two = {"A;A", "A ;A", "A; A", " A ; A ", "   A   ;   :A   ", "A;*CLS", " *CLS ; A "};
        for (String message : two) {
            oneAct().dueSent(message, 2);
        }
        Bench b = oneValue();
        b.dueSent("  V   5  ;  V2  6  ;  V? ; *ESE  7 ; *ESE? ", 5);
        b.dueNumbers("set", 1, 5, 6, 0);
        b.dueAnswers("asked", 5, 7);
    }

    private static void noBlankWithinAUnit() {
        String[] wrong = {": V 5", "V : V 5", "V: V 5", "V :V 5", "V 2 5", "* CLS", "V - 5", "V 5 K", "V + 5", "V 5 5", "V O N", "V ?", "*ESE ?"};
        for (String message : wrong) {
            Bench b = oneValue();
            b.dueSent(message, 0, -102);
            b.dueNumbers(message, 1, 0, 0, 0);
        }
    }

    private static void aBlankAheadOfItsValue() {
        Bench b = oneValue();
        b.dueAlone("V 5", 1);
        b.dueAlone("V     6", 1);
        due("five blanks", b.it.value(1, 1), 6);
        String[] wrong = {"V+7", "V-7", "V27", "V?7", "V?+7", "*ESE7", "*ESE+7"};
        for (String message : wrong) {
            b.dueAlone(message, 0, -102);
        }
        // Without a blank letters and a figure belong to the WORD.
        b.dueAlone("VON", 0, -113);
        b.dueAlone("V2", 0, -109);
        b.dueAlone("V7", 0, -113);
        b.dueNumbers("nothing is set", 1, 6, 0, 0);
    }

    private static void theQuestionIsAtOnceBehind() {
        Bench b = oneValue();
        b.dueAlone("V?", 1);
        b.dueAlone("V? ", 1);
        b.dueAlone("V3?", 1);
        b.dueAlone("*ESE?", 1);
        b.dueAnswers("four", 0, 0, 0, 0);
        String[] wrong = {"V ?", "V??", "V? ?", "?", "?V", "V3 ?", "V?3", "*?", "*?ESE", "*ESE ?", "*ESE??", "V?:V", ":?", "V? 5?", "V 5?"};
        for (String message : wrong) {
            Bench c = oneValue();
            c.dueSent(message, 0, -102);
            c.dueAnswers(message);
        }
    }

    private static void commonLettersAre1To8() {
        for (int letters = 0; letters <= 10; letters++) {
            String word = "*" + "ABCDEFGHIJ".substring(0, letters);
            int fault = letters >= 1 && letters <= 8 ? -113 : -102;
            new Bench().dueSent(word, 0, fault);
            new Bench().dueSent(word + "?", 0, fault);
            new Bench().dueSent(word + " 5", 0, fault);
        }
        String[] wrong = {"*CLS1", "*CLS:A", "*1", "**CLS", ":*CLS", "*:CLS", "*CLS*", "CLS*", "*CL S", "*ESE1 5", "*-", "*;"};
        for (String message : wrong) {
            new Bench().dueSent(message, 0, -102);
        }
        String[] none = {"*C", "*CL", "*CLSS", "*CLSCLS", "*CLSCLSCL", "*SCL", "*LS"};
        for (String message : none) {
            new Bench().dueSent(message, 0, message.length() <= 9 ? -113 : -102);
        }
        new Bench().dueSent("CLS", 0, -113);
    }

    private static void commonWordsInWhateverCase() {
        String[] right = {"*CLS", "*cls", "*cLs", "*ESE 1", "*ese 1", "*SRE 1", "*sRE 1", "*ESR?", "*esr?", "*STB?", "*stB?", "*OPC",
            "*opc", "*OPC?", "*Opc?", "*RST", "*rst", "*ESE?", "*eSe?", "*SRE?", "*sre?"};
        for (String message : right) {
            new Bench().dueSent(message, 1);
        }
    }

    private static void colonsBetweenAndAhead() {
        String[] wrong = {":", "::", "::V 5", "V: 5", "V::V 5", ":V: 5", "V:;V 5", ":;", ": ", "V:?", ":?"};
        for (String message : wrong) {
            oneValue().dueSent(message, 0, -102);
        }
        oneValue().dueSent(":V 5", 1);
        oneValue().dueSent(":V 5;:V 6", 2);
    }

    /** BRANCHES N one below the other, 1 to 6, and an ACT A below each: 7 below ROOT, 8 below 1, to 13 below 6. */
    private static Bench chain() {
        Bench b = new Bench();
        for (int n = 0; n < 6; n++) {
            b.node(n, "N", BRANCH, 0, 0);
        }
        for (int n = 0; n <= 6; n++) {
            b.node(n, "A", ACT, 0, 0);
        }
        return b;
    }

    private static void aHeaderHas4Words() {
        String[] ahead = {"", ":"};
        for (String colon : ahead) {
            for (int words = 1; words <= 6; words++) {
                Bench b = chain();
                String header = colon + "N:".repeat(words - 1) + "A";
                if (words <= 4) {
                    b.dueSent(header, 1);
                    due("done: " + header, b.it.of(6 + words, 8), 1);
                } else {
                    b.dueSent(header, 0, -102);
                }
            }
        }
        chain().dueSent("Q:Q:Q:Q", 0, -113);
        chain().dueSent("Q:Q:Q:Q:Q", 0, -102);
        chain().dueSent("N:N:N:N?", 0, -113);
        chain().dueSent("N:N:N:A:?", 0, -102);
    }

    private static void withTheBranch6Words() {
        for (int first = 1; first <= 4; first++) {
            for (int second = 1; second <= 5; second++) {
                Bench b = chain();
                int all = first - 1 + second;
                String message = "N:".repeat(first - 1) + "A;" + "N:".repeat(second - 1) + "A";
                if (second <= 4 && all <= 6) {
                    b.dueSent(message, 2);
                    due("done: " + message, b.it.of(6 + all, 8), first == all ? 2 : 1);
                } else {
                    b.dueSent(message, 1, -102);
                }
            }
        }
        Bench b = chain();
        b.dueSent("N:N:N:A;N:N:A;A;A", 4);
        due("6 WORDS again and again", b.it.of(12, 8), 3);
        chain().dueSent("N:N:N:A;N:N:A;N:A", 2, -102);
        chain().dueSent("N:N:N:A;N:N:A;Q", 2, -113);
        chain().dueSent("N:N:N:A;N:N:A;Q:Q", 2, -102);
        chain().dueSent("N:N:N:A;N:N:A;:N:N:N:A;N:N:A", 4);
        chain().dueSent("N:N:N:A;N:N:N:N", 1, -102);
        chain().dueSent("N:N:N:A;N:N:N", 1, -113);
    }

    private static void aValueHas1To6Figures() {
        String[] signs = {"", "+", "-"};
        String[] steps = {"", "K", "k"};
        for (String sign : signs) {
            for (String step : steps) {
                for (int figures = 0; figures <= 8; figures++) {
                    Bench b = oneValue();
                    b.it.range(1, -9999, 9999);
                    String value = sign + "00000003".substring(8 - figures) + step;
                    int size = (sign.equals("-") ? -3 : 3) * (step.isEmpty() ? 1 : 1000);
                    boolean stands = figures >= 1 && figures <= 6;
                    b.text("V " + value);
                    // 'V ' alone has no VALUE at all.
                    boolean isMissing = value.isEmpty();
                    due("V " + value, b.it.sends(), stands ? 1 : 0);
                    due("FAULT of V " + value, b.it.faults(0), stands ? NONE : isMissing ? -109 : -102);
                    due("number of V " + value, b.it.value(1, 1), stands ? size : -9999);
                }
            }
        }
        oneValue().dueSent("V 999999", 1, -222);
        oneValue().dueSent("V 1000000", 0, -102);
        oneValue().dueSent("V 999999K", 1, -222);
        oneValue().dueSent("V -999999K", 1, -222);
    }

    private static void signsOfAValue() {
        String[] wrong = {"++5", "--5", "+-5", "-+5", "5+", "5-", "+", "-", "+K", "-k", "+ON", "-OFF", "=5", ".5", "5.", "5,", "0x5", "#5", "5e1"};
        for (String value : wrong) {
            Bench b = oneValue();
            b.dueSent("V " + value, 0, -102);
            b.dueNumbers(value, 1, 0, 0, 0);
        }
        Bench b = oneValue();
        b.it.range(1, -1, 1);
        String[] right = {"+1", "1", "-1", "+0", "-0", "0"};
        int[] want = {1, 1, -1, 0, 0, 0};
        for (int i = 0; i < right.length; i++) {
            b.dueAlone("V " + right[i], 1);
            due("V " + right[i], b.it.value(1, 1), want[i]);
        }
    }

    private static void stepsOfAValue() {
        String[] wrong = {"K", "k", "5KK", "5kK", "5K5", "5M", "5m", "5J", "5L", "K5", "5K+", "ONK", "OFFk", "5Kk"};
        for (String value : wrong) {
            oneValue().dueSent("V " + value, 0, -102);
        }
        oneValue().dueSent("V 9K", 1);
        oneValue().dueSent("V 10K", 1, -222);
        oneValue().dueSent("V 0K", 1);
        oneValue().dueSent("V -0k", 1);
        oneValue().dueSent("V -1k", 1, -222);
    }

    private static void onAndOff() {
        String[] on = {"ON", "on", "On", "oN"};
        String[] off = {"OFF", "off", "Off", "oFf", "ofF", "OFf"};
        for (String value : on) {
            Bench b = oneValue();
            b.dueSent("V " + value, 1);
            due(value, b.it.value(1, 1), 1);
        }
        for (String value : off) {
            Bench b = oneValue();
            b.sends("V 5");
            b.dueSent("V " + value, 1);
            due(value, b.it.value(1, 1), 0);
        }
        String[] wrong = {"O", "OF", "OFFF", "ONN", "ONO", "OFN", "NO", "FF", "N", "ON1", "OFF0", "1ON", "ON?", "PN", "OFG", "OGF",
            "A", "ONABCDEFGHIJK"};
        for (String value : wrong) {
            oneValue().dueSent("V " + value, 0, -102);
        }
        Bench b = oneValue();
        b.it.range(1, 2, 5);
        b.dueSent("V ON;V OFF", 2, -222, -222);
    }

    /** 1 S, a BRANCH; below it 2 V, a VALUE, and 3 C, a BRANCH with 4 L, a VALUE; below ROOT 5 V, an ACT. */
    private static Bench branches() {
        Bench b = new Bench();
        b.node(0, "S", BRANCH, 2, 0);
        b.node(1, "V", VALUE, 3, 0);
        b.node(1, "C", BRANCH, 3, 0);
        b.node(3, "L", VALUE, 3, 0);
        b.node(0, "V", ACT, 0, 0);
        return b;
    }

    private static void noBranchAtFirst() {
        Bench b = branches();
        b.dueSent("V", 1);
        due("from ROOT", b.it.of(5, 8), 1);
        b.dueSent("S:V 5", 1);
        b.dueSent("V", 1);
        due("each MESSAGE begins without one", b.it.of(5, 8), 2);
        b.dueSent("S:V 5;Q", 1, -113);
        b.sends("V");
        due("also behind one that a FAULT ended", b.it.of(5, 8), 3);
    }

    private static void theBranchIsOfTheLatestFound() {
        Bench b = branches();
        b.dueSent("S:V 5;V2 6;C:L 7;L2 8", 4);
        b.dueNumbers("V", 2, 5, 6, 0);
        b.dueNumbers("L", 4, 7, 8, 0);
        b.dueSent("S:C:L3 9;L2 10;:S:V3 1;V2 2", 4);
        b.dueNumbers("from the latest", 2, 5, 2, 1);
        branches().dueSent("S:V 5;S:V 6", 1, -113);
        branches().dueSent("S:C:L 5;V 6", 1, -113);
        branches().dueSent("V;S:V 6;V 7", 3);
        Bench asked = branches();
        asked.dueSent("S:V?;V2 3;V2?", 3);
        asked.dueAnswers("a QUESTION's, too", 0, 3);
        Bench far = branches();
        far.dueSent("S:V 10K;V2 3", 2, -222);
        due("found, though out of range", far.it.value(2, 2), 3);
    }

    private static void colonAheadTakesNoBranch() {
        Bench b = branches();
        b.dueSent("S:V 5;:V;V", 3);
        due(": is from ROOT, and what follows it, too", b.it.of(5, 8), 2);
        branches().dueSent("S:V 5;:C:L 6", 1, -113);
        branches().dueSent("S:C:L 5;:S:V 6;V 7", 3);
        Bench c = branches();
        c.dueSent(":S:V 5;V2 6", 2);
        c.dueNumbers("a BRANCH of : ahead", 2, 5, 6, 0);
    }

    private static void commonOnesLeaveTheBranch() {
        Bench b = branches();
        b.dueSent("*CLS;S:V 5;*CLS;V2 6;*ESE?;*OPC;*RST;V3 7;*ESE 999;V 8", 10, -222);
        b.dueNumbers("the BRANCH stays", 2, 8, 0, 7);
    }

    private static void theBranchKeepsItsFigures() {
        Bench b = new Bench();
        b.node(0, "S", BRANCH, 0, 0);
        b.node(0, "S", BRANCH, 2, 0);
        b.node(1, "V", VALUE, 3, 0);
        b.node(2, "V", VALUE, 3, 0);
        b.dueSent("S:V 1;V2 2", 2);
        b.dueNumbers("without figure the first", 3, 1, 2, 0);
        b.dueSent("S2:V 3;V3 4", 2);
        b.dueNumbers("with it the second", 4, 3, 0, 4);
        b.dueNumbers("the first stays", 3, 1, 2, 0);
    }

    /** The BRANCH is the WORDS that were told, not the NODES that they came to. */
    private static void theBranchIsAsItWasTold() {
        Bench b = new Bench();
        b.node(0, "L", BRANCH, 0, 1);
        b.node(1, "B", BRANCH, 0, 0);
        b.node(2, "X", ACT, 0, 1);
        b.node(0, "X", SLOW, 0, 0);
        b.dueSent("B:X;X", 2);
        due("B with X", b.it.of(3, 8), 2);
        b.dueSent("B;X", 2);
        due("B alone leaves no BRANCH", b.it.of(4, 8), 1);
        b.dueSent("L:B;B:X", 2);
        due("L is the BRANCH of L:B", b.it.of(3, 8), 5);
    }

    private static void sendsLeavesTheText() {
        Bench b = oneAct();
        b.dueSent("A;A", 2);
        due("bytes", b.it.told(3), 3);
        due("again", b.it.sends(), 2);
        due("done four times", b.it.of(1, 8), 4);
        b.it.type(';');
        due("one byte more", b.it.sends(), 2);
        b.dueFaults("behind the last ;", -102);
        b.dueTold("sends is never refused", 0, 0, 0);
    }
}
