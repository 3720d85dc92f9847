/** The edges that the document names of FAULTS, of what is Done, of COMMON words, ANSWERS and EVENTS (promises 8, 10, 11). */
public final class FaultEdgesTest {
    private static final int NONE = BenchOrders.NONE, NO = BenchOrders.NO;
    private static final int BRANCH = 0, VALUE = 1, ACT = 2, SLOW = 3;

    private FaultEdgesTest() {
    }

    public static void main(String[] args) {
        faultsThatEndTheMessage();
        faultsThatDoNot();
        readWholeFirst();
        thenFound();
        thenAValueNotWanted();
        thenNoneWhereOneIsWanted();
        thenOutOfRange();
        aValueFromLowToHigh();
        actsAreCounted();
        neverMoreThan4Pending();
        masksAre0To255();
        questionsOfCommonWords();
        formsOfCommonWords();
        clsTakesStatus();
        rstTakesValues();
        opcWithNothingPending();
        opcWithPending();
        esrIsZeroAheadOfItsAnswer();
        stbIsAheadOfItsAnswer();
        sixAnswersAtMost();
        fourFaultsAtMost();
        aLostFaultIsSeenInEvents();
        eventsOfEachFault();
        answersGoFromTheFirst();
        faultsGoFromTheFirst();
        byAMessageNothingCounts();
        Bench.end();
    }

    private static void due(String what, long got, long want) {
        Bench.due(what, got, want);
    }

    /** 1 B, a BRANCH; 2 V, a VALUE of 0 to 9; 3 A, an ACT; 4 S, a SLOW ACT. */
    private static Bench eachKind() {
        Bench b = new Bench();
        b.node(0, "B", BRANCH, 0, 0);
        b.node(0, "V", VALUE, 3, 0);
        b.node(0, "A", ACT, 0, 0);
        b.node(0, "S", SLOW, 0, 0);
        b.it.range(2, 0, 9);
        return b;
    }

    private static void faultsThatEndTheMessage() {
        String[] units = {"", "?", "A:", "Q", "B", "*FOO", "*CLS?", "V? 1", "A 1", "*CLS 1", "V", "*ESE"};
        int[] faults = {-102, -102, -102, -113, -113, -113, -113, -108, -108, -108, -109, -109};
        for (int i = 0; i < units.length; i++) {
            Bench b = eachKind();
            b.dueSent("A;" + units[i] + ";A", 1, faults[i]);
            due("the rest is not done behind '" + units[i] + "'", b.it.of(3, 8), 1);
            b.dueState("its EVENT", 0, 32);
        }
    }

    private static void faultsThatDoNot() {
        Bench b = eachKind();
        b.dueSent("V 10;A;*ESE 256;A;*SRE -1;A", 6, -222, -222, -222);
        due("-222 goes on", b.it.of(3, 8), 3);
        b.takeFaults();
        b.dueSent("S;S;S;S;S;A", 6, -222);
        due("-222 of a fifth goes on", b.it.of(3, 8), 4);
        b.takeFaults();
        b.dueSent("A?;A?;A?;A?;A?;A?;A?;A", 8, -430);
        due("-430 goes on", b.it.of(3, 8), 5);
        b.dueSent("V 10;V 10;V 10;V 10;V 10;A", 6, -430, -222, -222, -350);
        due("-350 goes on", b.it.of(3, 8), 6);
    }

    /** Each UNIT has -102 and what the other FAULTS name besides. */
    private static void readWholeFirst() {
        String[] units = {"Q 1 1", "B 1 1", "*FOO 1 1", "*CLS? 1 1", "V? 1 1", "A 1 1", "*CLS 1 1", "V 10 1", "V 99999999",
            "Q 1234567", "*ESE 999 1", "S 5K5", "Q? ?", "*FOO? ?", "V10 5", "A ON1"};
        for (String unit : units) {
            eachKind().dueSent(unit, 0, -102);
        }
    }

    /** Each UNIT has -113 and a VALUE too many, none, or one out of range besides. */
    private static void thenFound() {
        String[] units = {"Q", "Q?", "Q 1", "Q? 1", "Q 99999", "B", "B 1", "B?", "B? 1", "V4 10", "A1 5", "*FOO", "*FOO 1", "*FOO?", "*FOO? 1", "*CLS?",
            "*CLS? 1", "*RST?", "*RST? 1", "*ESR", "*ESR 1", "*STB", "*STB 999"};
        for (String unit : units) {
            eachKind().dueSent(unit, 0, -113);
        }
    }

    private static void thenAValueNotWanted() {
        String[] units = {"V? 1", "V? 10", "V3? ON", "A 1", "A? 1", "A -99999", "S 1", "S? OFF", "*CLS 1", "*RST 0", "*OPC 1", "*OPC? 1", "*ESE? 1",
            "*ESE? 999", "*SRE? 1", "*ESR? 1", "*STB? OFF"};
        for (String unit : units) {
            Bench b = eachKind();
            b.dueSent(unit, 0, -108);
            b.dueAnswers(unit);
            due("nothing is done by " + unit, b.it.of(3, 8) + b.it.of(4, 8) + b.it.state(9), 0);
        }
        Bench full = eachKind();
        full.sends("S;S;S;S");
        full.dueSent("S 1", 0, -108);
    }

    private static void thenNoneWhereOneIsWanted() {
        String[] units = {"V", "V ", " V", "V3", ":V", "*ESE", "*SRE", "*ESE ", "*sre   "};
        for (String unit : units) {
            eachKind().dueSent(unit, 0, -109);
        }
        String[] without = {"A", "S", "V?", "A?", "S?", "*CLS", "*RST", "*OPC", "*OPC?", "*ESE?", "*SRE?", "*ESR?", "*STB?"};
        for (String unit : without) {
            eachKind().dueSent(unit, 1);
        }
    }

    private static void thenOutOfRange() {
        String[] units = {"V 10", "V -1", "V3 10", "V 999999K", "*ESE 256", "*ESE -1", "*SRE 256", "*SRE -1", "*ESE 1K", "*SRE -999999K"};
        for (String unit : units) {
            Bench b = eachKind();
            b.sends("V 3;V2 4;V3 5;*ESE 6;*SRE 7");
            b.dueSent(unit, 1, -222);
            b.dueNumbers("nothing is set by " + unit, 2, 3, 4, 5);
            b.dueState("nothing is set by " + unit, 1, 6);
            b.dueState("nothing is set by " + unit, 2, 7);
            b.dueState("its EVENT", 0, 16);
        }
    }

    private static void aValueFromLowToHigh() {
        int[][] ranges = {{0, 9}, {-9999, 9999}, {-5, -5}, {7, 7}, {-3, 2}, {9998, 9999}, {-9999, -9998}};
        for (int[] r : ranges) {
            Bench b = eachKind();
            b.it.range(2, r[0], r[1]);
            b.dueSent("V " + r[0], 1);
            due("LOW", b.it.value(2, 1), r[0]);
            b.dueSent("V2 " + r[1], 1);
            due("HIGH", b.it.value(2, 2), r[1]);
            b.dueSent("V3 " + (r[0] - 1), 1, -222);
            due("below LOW", b.it.value(2, 3), r[0]);
            b.dueSent("V3 " + (r[1] + 1), 1, -222, -222);
            due("above HIGH", b.it.value(2, 3), r[0]);
        }
    }

    private static void actsAreCounted() {
        Bench b = eachKind();
        b.dueSent("A?;A;A?;A;A;A?;S?;S;S?", 9);
        b.dueAnswers("0 at first, a QUESTION adds none", 0, 1, 3, 0, 1);
        due("A", b.it.of(3, 8), 3);
        due("S", b.it.of(4, 8), 1);
        b.duePending("an ACT is not PENDING", 4);
        b.it.finishes(0);
        due("over, but done", b.it.of(4, 8), 1);
    }

    private static void neverMoreThan4Pending() {
        Bench b = eachKind();
        b.node(0, "T", SLOW, 0, 0);
        b.dueSent("S;T;T", 3);
        b.duePending("three", 4, 5, 5);
        b.dueSent("S", 1);
        b.duePending("four", 4, 5, 5, 4);
        b.dueSent("T;S", 2, -222, -222);
        b.duePending("a fifth is not PENDING", 4, 5, 5, 4);
        due("nothing done: S", b.it.of(4, 8), 2);
        due("nothing done: T", b.it.of(5, 8), 2);
        b.takeFaults();
        b.dueSent("S?;T?", 2);
        b.dueAnswers("a QUESTION can be", 2, 2);
        b.it.finishes(3);
        b.dueSent("T", 1);
        b.duePending("four again", 4, 5, 5, 5);
        b.dueSent("*RST;S;S;S;S;S", 6, -222);
        b.duePending("RST makes room", 4, 4, 4, 4);
    }

    private static void masksAre0To255() {
        String[] words = {"*ESE", "*SRE"};
        for (int i = 0; i < 2; i++) {
            Bench b = eachKind();
            String w = words[i];
            b.dueSent(w + "?;" + w + " 255;" + w + "?;" + w + " 256;" + w + "?;" + w + " -1;" + w + "?", 7, -222, -222);
            b.dueAnswers("0 at first, 255", 0, 255, 255, 255);
            b.dueState(w, 1 + i, 255);
            b.dueState("the other", 2 - i, 0);
            b.takeFaults();
            b.takeAnswers();
            b.dueSent(w + " 0;" + w + "?;" + w + " ON;" + w + "?;" + w + " +128;" + w + "?;" + w + " -0;" + w + "?", 8);
            b.dueAnswers("VALUES of all forms", 0, 1, 128, 0);
            b.dueSent(w + " 0K;" + w + " 1K", 2, -222);
        }
    }

    private static void questionsOfCommonWords() {
        Bench b = eachKind();
        b.dueSent("*ESE 5;*SRE 6;*ESE?;*SRE?;*OPC?;*ESR?;*STB?", 7);
        b.dueAnswers("each", 5, 6, 1, 0, 16);
        b.takeAnswers();
        b.dueSent("*ESE?;*SRE?;S;*OPC?;*OPC", 5);
        b.dueAnswers("they stay", 5, 6, 0);
        b.dueState("a QUESTION is not WAITING", 10, 1);
    }

    private static void formsOfCommonWords() {
        String[] words = {"CLS", "RST", "ESR", "STB", "OPC", "ESE", "SRE"};
        boolean[] plain = {true, true, false, false, true, true, true};
        boolean[] asked = {false, false, true, true, true, true, true};
        for (int i = 0; i < words.length; i++) {
            String value = i >= 5 ? " 1" : "";
            if (plain[i]) {
                eachKind().dueSent("*" + words[i] + value, 1);
            } else {
                eachKind().dueSent("*" + words[i] + value, 0, -113);
            }
            if (asked[i]) {
                eachKind().dueSent("*" + words[i] + "?", 1);
            } else {
                eachKind().dueSent("*" + words[i] + "?", 0, -113);
            }
        }
        Bench b = eachKind();
        b.sends("V 5;S;*OPC");
        b.dueSent("*RST?", 0, -113);
        due("nothing is done by a form that is none", b.it.value(2, 1), 5);
        b.dueSent("*CLS?", 0, -113, -113);
        b.dueState("FAULTS stay", 12, 2);
        b.dueState("WAITING stays", 10, 1);
    }

    private static void clsTakesStatus() {
        Bench b = eachKind();
        b.it.condition(0, 1);
        b.it.condition(3, 1);
        b.it.masks(1, 6);
        b.it.masks(2, 9);
        b.sends("*ESE 255;*SRE 255;V 5;V?;A;S;*OPC;V 10;V 10;V 10;V 10;V 10;Q");
        b.dueStates("ahead of CLS", 56, 255, 255, 4 + 16 + 32 + 64 + 128, 9, 9, 15, 6, 9, 1, 1, 1, 4, 5);
        b.dueSent("*CLS", 1);
        b.dueStates("behind CLS", 0, 255, 255, 16 + 64, 9, 0, 15, 6, 9, 1, 0, 1, 0, 5);
        b.dueAnswers("ANSWERS stay", 5);
        b.dueNumbers("VALUES stay", 2, 5, 0, 0);
        b.duePending("PENDING ones stay", 4);
        due("how often stays", b.it.of(3, 8), 1);
        b.it.finishes(0);
        b.dueState("it is WAITING no more", 0, 0);
        b.dueSent("*CLS", 1);
        b.dueSent("Q", 0, -113);
        b.dueSent("*CLS;Q;*CLS", 1, -113);
    }

    private static void rstTakesValues() {
        Bench b = eachKind();
        b.node(0, "W", VALUE, 3, 0);
        b.it.range(5, -8, -4);
        b.it.condition(1, 1);
        b.sends("*ESE 3;*SRE 5;V 1;V2 2;V3 3;W -5;W2 -6;W3 -7;V?;A;S;S;*OPC;V 10;Q");
        b.dueStates("ahead of RST", 48, 3, 5, 4 + 16 + 64, 2, 2, 15, 0, 0, 2, 1, 1, 2, 6);
        b.sends("*RST");
        b.dueStates("behind RST", 48, 3, 5, 4 + 16 + 64, 2, 2, 15, 0, 0, 0, 0, 1, 2, 6);
        b.dueNumbers("LOW", 2, 0, 0, 0);
        b.dueNumbers("LOW", 5, -8, -8, -8);
        due("LOW itself stays", b.it.of(5, 4), -8);
        due("HIGH stays", b.it.of(5, 5), -4);
        b.duePending("they are gone");
        b.sends("*OPC?");
        b.dueAnswers("nothing is PENDING", 1, 1);
        b.sends("S");
        b.it.finishes(0);
        b.dueState("it is not WAITING: no EVENT 1", 0, 48);
    }

    private static void opcWithNothingPending() {
        Bench b = eachKind();
        b.sends("*OPC?");
        b.dueAnswers("OPC?", 1);
        b.dueState("a QUESTION makes no EVENT", 0, 0);
        b.sends("*OPC");
        b.dueState("EVENT 1", 0, 1);
        b.dueState("not WAITING", 10, 0);
        b.sends("*ESR?;Q");
        b.sends("*OPC");
        b.dueState("EVENT 1 beside the others", 0, 33);
        b.sends("*ESR?;S");
        b.it.finishes(0);
        b.dueState("no EVENT without WAITING", 0, 0);
    }

    private static void opcWithPending() {
        for (int pending = 1; pending <= 4; pending++) {
            Bench b = eachKind();
            b.sends("S" + ";S".repeat(pending - 1) + ";*OPC;*OPC?");
            b.dueAnswers("not yet", 0);
            b.dueState("WAITING", 10, 1);
            for (int left = pending - 1; left >= 0; left--) {
                b.dueState("no EVENT yet", 0, 0);
                due("finishes", b.it.finishes(left), left);
                b.dueState("WAITING while some are left", 10, left > 0 ? 1 : 0);
            }
            b.dueState("EVENT 1", 0, 1);
        }
        Bench b = eachKind();
        b.sends("S;*OPC;*OPC;S");
        b.it.finishes(0);
        b.dueState("one that began later counts, too", 0, 0);
        b.it.finishes(0);
        b.dueState("told when all are over", 0, 1);
        b.sends("*CLS;S;*OPC;V 10");
        b.it.finishes(0);
        b.dueState("beside the others", 0, 17);
    }

    private static void esrIsZeroAheadOfItsAnswer() {
        Bench b = eachKind();
        b.sends("*OPC;V 10;Q");
        b.dueSent("*ESR?;*ESR?", 2, -222, -113);
        b.dueAnswers("they are read once", 49, 0);
        b.dueState("none are left", 0, 0);
        b.sends("*CLS;V?;V?;V?;V?;*OPC");
        b.dueSent("*ESR?", 1, -430);
        b.dueState("0, then -430 comes with its 4", 0, 4);
        b.dueSent("*ESR?;*ESR?", 2, -430, -430, -430);
        b.dueState("again", 0, 4);
    }

    private static void stbIsAheadOfItsAnswer() {
        Bench b = eachKind();
        b.dueSent("*STB?;*STB?", 2);
        b.dueAnswers("16 once there is one", 0, 16);
        b.takeAnswers();
        b.dueSent("*SRE 16;*STB?;*STB?", 3);
        b.dueAnswers("80 once there is one", 0, 80);
        b.takeAnswers();
        b.dueSent("*SRE 4;V 10;*STB?", 3, -222);
        b.dueAnswers("with FAULTS", 68);
        b.dueState("SUM stays, and has its ANSWER", 3, 84);
    }

    private static void sixAnswersAtMost() {
        Bench b = eachKind();
        b.dueSent("V 1;V?;V 2;V?;V 3;V?;V 4;V?;V 5;V?", 10);
        b.dueAnswers("five", 1, 2, 3, 4, 5);
        b.dueSent("V 6;V?", 2);
        b.dueAnswers("six", 1, 2, 3, 4, 5, 6);
        b.dueState("no EVENT", 0, 0);
        b.dueSent("V 7;V?;V 8", 3, -430);
        b.dueAnswers("a seventh is lost", 1, 2, 3, 4, 5, 6);
        b.dueState("EVENT 4", 0, 4);
        due("the MESSAGE goes on", b.it.value(2, 1), 8);
        String[] questions = {"A?", "S?", "*ESE?", "*SRE?", "*OPC?", "*STB?", "*ESR?"};
        for (String question : questions) {
            b.takeFaults();
            b.dueSent(question, 1, -430);
            b.dueAnswers("a seventh is lost", 1, 2, 3, 4, 5, 6);
        }
        due("one goes", b.it.answer(), 1);
        b.takeFaults();
        b.dueSent("V?;V?", 2, -430);
        b.dueAnswers("room for one", 2, 3, 4, 5, 6, 8);
    }

    private static void fourFaultsAtMost() {
        Bench b = eachKind();
        b.dueSent("V 10;V 10;Q", 2, -222, -222, -113);
        b.dueSent("A 1", 0, -222, -222, -113, -108);
        b.dueState("four: none is lost", 0, 48);
        b.dueSent("V", 0, -222, -222, -113, -350);
        b.dueState("8 besides", 0, 56);
        b.dueSent("V 10;V 10;V 10", 3, -222, -222, -113, -350);
        due("the first goes", b.it.fault(), -222);
        b.dueSent("V", 0, -222, -113, -350, -109);
        b.dueSent("V", 0, -222, -113, -350, -350);
        b.takeFaults();
        b.dueSent("V 10", 1, -222);
        b.dueSent("*CLS;V 10;V 10;V 10;V 10;V 10;*CLS;Q", 7, -113);
        Bench one = eachKind();
        one.dueSent("V 10;V 10;V 10;V 10;V 10;V 10;V 5", 7, -222, -222, -222, -350);
        due("a lost one does not end it", one.it.value(2, 1), 5);
        one.dueSent("Q;V 6", 0, -222, -222, -222, -350);
        due("a lost one that ends it does", one.it.value(2, 1), 5);
    }

    private static void aLostFaultIsSeenInEvents() {
        String[] messages = {"Q", "V", "V? 1", "", "V 10", "V?"};
        int[] events = {32, 32, 32, 32, 16, 4};
        for (int i = 0; i < messages.length; i++) {
            Bench b = eachKind();
            b.sends("V?;V?;V?;V?;V?;V?;V 10;V 10;V 10;V 10;*ESR?");
            b.dueFaults("full", -222, -222, -222, -350);
            // A question on full ANSWERS leaves 4 and 8; going by CLS would take the FAULTS.
            b.it.answer();
            b.sends("*ESR?");
            b.dueState("none", 0, 0);
            b.sends(messages[i]);
            b.dueState("EVENTS of the lost FAULT of '" + messages[i] + "'", 0, events[i] + 8);
            b.dueFaults("full", -222, -222, -222, -350);
        }
    }

    private static void eventsOfEachFault() {
        String[] messages = {"", "Q", "V? 1", "V", "V 10", "S;S;S;S;S", "V?;V?;V?;V?;V?;V?;V?", "*OPC"};
        int[] faults = {-102, -113, -108, -109, -222, -222, -430, NONE};
        int[] events = {32, 32, 32, 32, 16, 16, 4, 1};
        for (int i = 0; i < messages.length; i++) {
            Bench b = eachKind();
            b.sends(messages[i]);
            due("FAULT of '" + messages[i] + "'", b.it.faults(0), faults[i]);
            b.dueState("EVENTS of '" + messages[i] + "'", 0, events[i]);
            b.takeFaults();
            b.takeAnswers();
            b.dueState("they stay when FAULTS are taken", 0, events[i]);
            b.sends("*OPC?");
            b.dueState("and while nothing reads them", 0, events[i]);
        }
    }

    private static void answersGoFromTheFirst() {
        Bench b = eachKind();
        Bench.dueRefused("answer of none", FaultEdgesTest::eachKind, NO, x -> x.answer());
        b.sends("V 1;V?;V 2;V?;V 3;V?;V 4;V?;V 5;V?;V 6;V?");
        for (int i = 1; i <= 6; i++) {
            b.dueState("ahead of " + i, 11, 7 - i);
            due("ANSWER " + i, b.it.answer(), i);
        }
        due("none is left", b.it.answer(), NO);
        b.dueState("SUM has no 16", 3, 0);
        b.dueTold("one refused", 0, 1, 0);
    }

    private static void faultsGoFromTheFirst() {
        Bench b = eachKind();
        Bench.dueRefused("fault of none", FaultEdgesTest::eachKind, NO, x -> x.fault());
        b.sends("");
        b.sends("Q");
        b.sends("V");
        b.sends("A 1");
        int[] faults = {-102, -113, -109, -108};
        for (int i = 0; i < 4; i++) {
            b.dueState("ahead of " + i, 12, 4 - i);
            due("FAULT " + i, b.it.fault(), faults[i]);
        }
        due("none is left", b.it.fault(), NO);
        b.dueState("SUM has no 4", 3, 0);
        b.dueTold("one refused", 0, 1, 0);
    }

    private static void byAMessageNothingCounts() {
        String[] messages = {"", "Q", "V", "V? 1", "V 10", "S;S;S;S;S", "V?;V?;V?;V?;V?;V?;V?", "*FOO", "V 10;V 10;V 10;V 10;V 10", "X".repeat(100)};
        for (String message : messages) {
            Bench b = eachKind();
            b.sends(message);
            b.dueTold("by '" + message + "'", 0, 0, 0);
        }
    }
}
