/** The edges that the document names of CONDITIONS, masks, EDGES, SUM, PENDING and the getters (promises 12 to 19). */
public final class StatusEdgesTest {
    private static final int NONE = BenchOrders.NONE, BAD = BenchOrders.BAD;
    private static final int LEAST = Bench.LEAST, GREATEST = Bench.GREATEST;
    private static final int VALUE = 1, SLOW = 3;

    private StatusEdgesTest() {
    }

    public static void main(String[] args) {
        conditionsAreBits0To3();
        aConditionThatIsSoAlready();
        anEdgeIsLetThroughByItsMask();
        edgesLatchUntilTheyAreRead();
        masksAre0To15();
        masksLetThroughLaterEdgesAlone();
        edgesOfNone();
        sumOfNothing();
        sumOfEachPart();
        sumOfParts();
        sreWith64CountsForNothing();
        sumByEachBitOfEse();
        sumByEachBitOfEnable();
        finishesEachPlace();
        finishesNotSoMany();
        finishesWhileWaiting();
        stateOfEachWhat();
        rowsBelow0();
        rowsBehindTheirEnd();
        fullRows();
        gettersLeaveNoState();
        Bench.end();
    }

    private static void due(String what, long got, long want) {
        Bench.due(what, got, want);
    }

    /** 1 V, a VALUE; 2 S and 3 T, SLOW ACTS; with some of all that can be seen. */
    private static Bench busy() {
        Bench b = new Bench();
        b.node(0, "V", VALUE, 3, 0);
        b.node(0, "S", SLOW, 0, 0);
        b.node(0, "T", SLOW, 0, 0);
        b.sends("V 7;V?;S;T;*OPC;*ESE 16;*SRE 32;V 10000;Q");
        b.it.condition(1, 1);
        b.it.condition(3, 1);
        b.it.masks(2, 8);
        return b;
    }

    private static void conditionsAreBits0To3() {
        for (int bit = 0; bit <= 3; bit++) {
            Bench b = new Bench();
            due("becomes 1", b.it.condition(bit, 1), 0);
            b.dueState("CONDITIONS", 4, 1 << bit);
            due("becomes 0", b.it.condition(bit, 0), 1);
            b.dueState("CONDITIONS", 4, 0);
        }
        int[] bits = {-1, 4, 5, 31, 32, 33, -32, LEAST, GREATEST};
        for (int bit : bits) {
            Bench.dueRefused("condition(" + bit + ", 0)", StatusEdgesTest::busy, BAD, x -> x.condition(bit, 0));
            Bench.dueRefused("condition(" + bit + ", 1)", StatusEdgesTest::busy, BAD, x -> x.condition(bit, 1));
        }
        int[] numbers = {-1, 2, 3, LEAST, GREATEST};
        for (int v : numbers) {
            for (int bit = 0; bit <= 3; bit++) {
                int place = bit;
                Bench.dueRefused("condition(" + bit + ", " + v + ")", StatusEdgesTest::busy, BAD, x -> x.condition(place, v));
            }
        }
        Bench all = new Bench();
        for (int bit = 0; bit <= 3; bit++) {
            all.it.condition(bit, 1);
        }
        all.dueState("all four", 4, 15);
        due("one of them", all.it.condition(2, 0), 1);
        all.dueState("the others stay", 4, 11);
    }

    private static void aConditionThatIsSoAlready() {
        for (int bit = 0; bit <= 3; bit++) {
            Bench b = new Bench();
            b.it.masks(1, 15);
            due("0 again", b.it.condition(bit, 0), 0);
            b.dueState("no EDGE", 5, 0);
            due("it leaves a STATE", b.it.told(4), 2);
            b.it.condition(bit, 1);
            b.it.edges();
            due("1 again", b.it.condition(bit, 1), 1);
            b.dueState("no EDGE", 5, 0);
        }
    }

    private static void anEdgeIsLetThroughByItsMask() {
        for (int bit = 0; bit <= 3; bit++) {
            for (int mask = 0; mask <= 15; mask++) {
                int let = mask & (1 << bit);
                Bench rise = new Bench();
                rise.it.masks(0, mask);
                rise.it.masks(1, 15 - mask);
                rise.it.condition(bit, 1);
                rise.dueState("a rise of " + bit + " by RISES " + mask, 5, let);
                Bench fall = new Bench();
                fall.it.masks(0, 0);
                fall.it.masks(1, mask);
                fall.it.condition(bit, 1);
                fall.dueState("no rise by FALLS", 5, 0);
                fall.it.condition(bit, 0);
                fall.dueState("a fall of " + bit + " by FALLS " + mask, 5, let);
            }
        }
        Bench first = new Bench();
        for (int bit = 0; bit <= 3; bit++) {
            first.it.condition(bit, 1);
        }
        first.dueState("RISES is 15 at first", 5, 15);
        first.it.edges();
        for (int bit = 0; bit <= 3; bit++) {
            first.it.condition(bit, 0);
        }
        first.dueState("FALLS is 0 at first", 5, 0);
    }

    private static void edgesLatchUntilTheyAreRead() {
        Bench b = new Bench();
        b.it.condition(2, 1);
        b.it.condition(2, 0);
        b.dueState("latched, though it fell", 5, 4);
        b.it.condition(0, 1);
        b.dueState("with another", 5, 5);
        b.dueState("state leaves them", 5, 5);
        due("edges takes them", b.it.edges(), 5);
        b.dueState("none", 5, 0);
        due("none", b.it.edges(), 0);
        b.dueState("CONDITIONS stay", 4, 1);
        b.it.condition(2, 1);
        due("anew", b.it.edges(), 4);
    }

    private static void masksAre0To15() {
        for (int what = 0; what <= 2; what++) {
            for (int v = 0; v <= 15; v++) {
                Bench b = new Bench();
                due("masks", b.it.masks(what, v), what == 0 ? 15 : 0);
                for (int other = 0; other <= 2; other++) {
                    int atFirst = other == 0 ? 15 : 0;
                    b.dueState("mask " + other, 6 + other, other == what ? v : atFirst);
                }
                due("what it was", b.it.masks(what, 15 - v), v);
                due("a STATE each", b.it.told(4), 2);
            }
            int mask = what;
            int[] wrong = {-1, 16, 31, LEAST, GREATEST};
            for (int v : wrong) {
                Bench.dueRefused("masks(" + what + ", " + v + ")", StatusEdgesTest::busy, BAD, x -> x.masks(mask, v));
            }
        }
        int[] whats = {-1, 3, LEAST, GREATEST};
        for (int what : whats) {
            Bench.dueRefused("masks(" + what + ", 0)", StatusEdgesTest::busy, BAD, x -> x.masks(what, 0));
        }
    }

    private static void masksLetThroughLaterEdgesAlone() {
        Bench b = new Bench();
        b.it.masks(0, 0);
        b.it.condition(1, 1);
        b.it.masks(0, 15);
        b.dueState("a rise ahead of the mask is no EDGE", 5, 0);
        b.it.condition(0, 1);
        b.it.masks(0, 0);
        b.dueState("an EDGE stays when its mask goes", 5, 1);
    }

    private static void edgesOfNone() {
        Bench b = new Bench();
        due("none", b.it.edges(), 0);
        due("it leaves a STATE", b.it.told(4), 1);
        due("back", b.it.back(), 0);
    }

    private static void sumOfNothing() {
        Bench b = new Bench();
        b.sends("*SRE 255;*ESE 255");
        b.it.masks(2, 15);
        b.dueState("all masks, nothing there", 3, 0);
    }

    /** One part of SUM alone: 4, 16, 32 or 128. */
    private static Bench only(int part) {
        Bench b = new Bench();
        switch (part) {
            case 4:
                b.sends("Q");
                break;
            case 16:
                b.sends("*OPC?");
                break;
            case 32:
                b.sends("*ESE 1;*OPC");
                break;
            default:
                b.it.masks(2, 2);
                b.it.condition(1, 1);
                break;
        }
        return b;
    }

    private static void sumOfEachPart() {
        int[] parts = {4, 16, 32, 128};
        for (int part : parts) {
            only(part).dueState("without SRE", 3, part);
            for (int bit = 1; bit <= 128; bit = 2 * bit) {
                Bench b = only(part);
                b.sends("*SRE " + bit);
                b.dueState(part + " by SRE " + bit, 3, bit == part ? part + 64 : part);
                b.sends("*SRE " + (255 - bit));
                b.dueState(part + " by SRE without " + bit, 3, bit == part ? part : part + 64);
            }
        }
    }

    private static void sumOfParts() {
        Bench b = new Bench();
        b.it.masks(2, 8);
        b.it.condition(3, 1);
        b.sends("*ESE 32;*OPC?;Q");
        b.dueState("all of them", 3, 4 + 16 + 32 + 128);
        b.sends("*SRE 128");
        b.dueState("one is enough", 3, 4 + 16 + 32 + 64 + 128);
        b.it.edges();
        b.dueState("EDGES are read", 3, 4 + 16 + 32);
        b.it.answer();
        b.dueState("ANSWERS are read", 3, 4 + 32);
        b.it.fault();
        b.dueState("FAULTS are read", 3, 32);
        b.sends("*ESE 0");
        b.dueState("EVENTS are masked", 3, 0);
    }

    private static void sreWith64CountsForNothing() {
        int[] parts = {4, 16, 32, 128};
        for (int part : parts) {
            Bench b = only(part);
            b.sends("*SRE 64");
            b.dueState("64 alone", 3, part);
            b.dueState("it is kept", 2, 64);
            b.sends("*SRE " + (64 + part));
            b.dueState("64 besides", 3, part + 64);
            b.sends("*SRE " + (255 - part));
            b.dueState("64 and all others", 3, part);
        }
    }

    private static void sumByEachBitOfEse() {
        String[] messages = {"*OPC", "V?;V?;V?;V?;V?;V?;V?", "V 10000", "Q"};
        int[] events = {1, 4, 16, 32};
        for (int i = 0; i < messages.length; i++) {
            Bench b = new Bench();
            b.node(0, "V", VALUE, 0, 0);
            b.sends(messages[i]);
            b.takeFaults();
            b.takeAnswers();
            b.dueState("EVENTS", 0, events[i]);
            b.dueState("ESE is 0 at first", 3, 0);
            b.sends("*ESE " + events[i]);
            b.dueState("its bit", 3, 32);
            b.sends("*ESE " + (255 - events[i]));
            b.dueState("all other bits", 3, 0);
        }
    }

    private static void sumByEachBitOfEnable() {
        for (int bit = 0; bit <= 3; bit++) {
            Bench b = new Bench();
            b.it.condition(bit, 1);
            b.dueState("ENABLE is 0 at first", 3, 0);
            b.it.masks(2, 1 << bit);
            b.dueState("its bit", 3, 128);
            b.it.masks(2, 15 - (1 << bit));
            b.dueState("all other bits", 3, 0);
            b.it.masks(2, 15);
            b.it.condition(bit, 0);
            b.dueState("latched EDGES, not CONDITIONS", 3, 128);
        }
    }

    private static Bench slow(String message) {
        Bench b = new Bench();
        b.node(0, "S", SLOW, 0, 0);
        b.node(0, "T", SLOW, 0, 0);
        b.node(0, "U", SLOW, 0, 0);
        b.node(0, "W", SLOW, 0, 0);
        b.sends(message);
        return b;
    }

    private static void finishesEachPlace() {
        int[][] left = {{2, 3, 4}, {1, 3, 4}, {1, 2, 4}, {1, 2, 3}};
        for (int i = 0; i < 4; i++) {
            Bench b = slow("S;T;U;W");
            due("finishes(" + i + ")", b.it.finishes(i), 3);
            b.duePending("left behind finishes(" + i + ")", left[i]);
            b.dueState("no EVENT", 0, 0);
            b.sends("S");
            b.duePending("a new one is the last", left[i][0], left[i][1], left[i][2], 1);
        }
    }

    private static void finishesNotSoMany() {
        String[] messages = {"*CLS", "S", "S;T", "S;T;U", "S;T;U;W"};
        for (int many = 0; many <= 4; many++) {
            String message = messages[many];
            int[] wrong = {-1, many, many + 1, LEAST, GREATEST};
            for (int i : wrong) {
                Bench.dueRefused("finishes(" + i + ") of " + many, () -> slow(message), BAD, x -> x.finishes(i));
            }
            if (many > 0) {
                due("the last of " + many, slow(message).it.finishes(many - 1), many - 1);
            }
        }
    }

    private static void finishesWhileWaiting() {
        Bench b = slow("S;*OPC");
        due("the last one", b.it.finishes(0), 0);
        b.dueStates("EVENT 1", 1, 0, 0, 0, 0, 0, 15, 0, 0, 0, 0, 0, 0, 5);
        due("none is left", b.it.finishes(0), BAD);
        b.it.back();
        b.dueStates("taken back", 0, 0, 0, 0, 0, 0, 15, 0, 0, 1, 1, 0, 0, 5);
        due("again", b.it.finishes(0), 0);
        b.sends("*ESR?;S");
        due("not WAITING any more", b.it.finishes(0), 0);
        b.dueState("no EVENT", 0, 0);
    }

    private static void stateOfEachWhat() {
        busy().dueStates("each", 48, 16, 32, 4 + 16 + 32 + 64 + 128, 10, 10, 15, 0, 8, 2, 1, 1, 2, 4);
        int[] wrong = {-1, 14, LEAST, GREATEST};
        for (int what : wrong) {
            Bench.dueRefused("state(" + what + ")", StatusEdgesTest::busy, BAD, x -> x.state(what));
        }
    }

    private static void rowsBelow0() {
        int[] wrong = {-1, -2, LEAST};
        for (int i : wrong) {
            Bench.dueRefused("answers(" + i + ")", StatusEdgesTest::busy, BAD, x -> x.answers(i));
            Bench.dueRefused("faults(" + i + ")", StatusEdgesTest::busy, BAD, x -> x.faults(i));
            Bench.dueRefused("pending(" + i + ")", StatusEdgesTest::busy, BAD, x -> x.pending(i));
            Bench.dueRefused("answers(" + i + ") of none", Bench::new, BAD, x -> x.answers(i));
            Bench.dueRefused("faults(" + i + ") of none", Bench::new, BAD, x -> x.faults(i));
            Bench.dueRefused("pending(" + i + ") of none", Bench::new, BAD, x -> x.pending(i));
        }
    }

    private static void rowsBehindTheirEnd() {
        int[] far = {3, 4, 5, 6, 7, 100, GREATEST};
        Bench b = busy();
        b.dueAnswers("one", 7);
        b.dueFaults("two", -222, -113);
        b.duePending("two", 2, 3);
        Bench none = new Bench();
        for (int i : far) {
            due("answers(" + i + ")", b.it.answers(i), NONE);
            due("faults(" + i + ")", b.it.faults(i), NONE);
            due("pending(" + i + ")", b.it.pending(i), NONE);
            due("answers(" + i + ") of none", none.it.answers(i), NONE);
            due("faults(" + i + ") of none", none.it.faults(i), NONE);
            due("pending(" + i + ") of none", none.it.pending(i), NONE);
        }
        b.dueTold("NONE is not refused", 0, 0, 0);
        b.it.answer();
        b.it.fault();
        b.it.finishes(0);
        b.dueAnswers("none is left");
        b.dueFaults("one is left", -113);
        b.duePending("one is left", 3);
        b.sends("*CLS;*RST");
        b.dueFaults("none behind CLS");
        b.duePending("none behind RST");
    }

    private static void fullRows() {
        Bench b = busy();
        b.sends("S;S;S;V 1;V?;V 2;V?;V 3;V?;V 4;V?;V 5;V?;V 6;V?;V 10000");
        b.dueAnswers("six", 7, 1, 2, 3, 4, 5);
        b.dueFaults("four", -222, -113, -222, -350);
        b.duePending("four", 2, 3, 2, 2);
    }

    private static void gettersLeaveNoState() {
        Bench b = busy();
        b.it.back();
        long before = b.it.digest();
        b.it.of(1, 4);
        b.it.value(1, 1);
        b.it.state(5);
        b.it.answers(0);
        b.it.answers(9);
        b.it.faults(0);
        b.it.pending(0);
        b.it.told(0);
        b.it.finds();
        due("nothing is other", b.it.digest(), before);
        due("STATES", b.it.told(4), 4);
    }
}
