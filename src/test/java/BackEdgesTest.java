import java.math.BigInteger;
import java.util.ArrayDeque;
import java.util.ArrayList;
import java.util.Deque;
import java.util.List;

/** The edges that the document names of STATES, refusals, counts, the digest and the 512 calls (promises 20 to 22). */
public final class BackEdgesTest {
    private static final int NONE = BenchOrders.NONE, BAD = BenchOrders.BAD, NO = BenchOrders.NO, FULL = BenchOrders.FULL;
    private static final int LEAST = Bench.LEAST, GREATEST = Bench.GREATEST;
    private static final int BRANCH = 0, VALUE = 1, ACT = 2, SLOW = 3;

    private BackEdgesTest() {
    }

    public static void main(String[] args) {
        backOfNone();
        fiveStatesAtMost();
        olderOnesAreLost();
        statesFillAndEmptyAgain();
        eachCallToldSLeavesOne();
        otherCallsLeaveNone();
        alsoIfNothingBecomesOther();
        refusedOnesLeaveNone();
        backLeavesTheTextAndHowOften();
        backOverFullRows();
        backOverNodes();
        backOverAMessage();
        backIsNotTakenBack();
        toldOfEachWhat();
        toldCountsEachKindOfRefusal();
        digestOfANewObject();
        digestWrapsAround();
        digestOfFullRows();
        digestChangesNothing();
        anyNumbersInAnyState();
        fiveHundredAndTwelveCalls();
        objectsAreApart();
        Bench.end();
    }

    private static void due(String what, long got, long want) {
        Bench.due(what, got, want);
    }

    /** 1 V, a VALUE; 2 S, a SLOW ACT; 3 A, an ACT; all rows hold something; STATES: 4. */
    private static Bench busy() {
        Bench b = new Bench();
        b.node(0, "V", VALUE, 3, 0);
        b.node(0, "S", SLOW, 0, 0);
        b.node(0, "A", ACT, 0, 0);
        b.sends("V 7;V2 8;V?;V2?;S;S;A;*OPC;*ESE 16;*SRE 32;V 10000;Q");
        b.it.condition(1, 1);
        b.it.masks(2, 2);
        b.it.back();
        return b;
    }

    private static void backOfNone() {
        Bench b = new Bench();
        due("none", b.it.back(), NO);
        due("none again", b.it.back(), NO);
        b.dueTold("none", 0, 2, 0);
        Bench.dueRefused("back of none", Bench::new, NO, x -> x.back());
        Bench c = busy();
        for (int i = 3; i >= 0; i--) {
            due("back", c.it.back(), i);
        }
        long before = c.it.digest();
        due("none is left", c.it.back(), NO);
        due("refused: how often", c.it.told(1), 1);
        due("refused: how often is in the digest", c.it.digest() == before ? 1 : 0, 0);
    }

    private static void fiveStatesAtMost() {
        for (int calls = 0; calls <= 12; calls++) {
            Bench b = new Bench();
            for (int i = 1; i <= calls; i++) {
                b.it.masks(2, i);
            }
            int states = Math.min(calls, 5);
            due("STATES behind " + calls, b.it.told(4), states);
            for (int i = 1; i <= states; i++) {
                due("back " + i + " of " + calls, b.it.back(), states - i);
                b.dueState("ENABLE", 8, calls - i);
                due("STATES", b.it.told(4), states - i);
            }
            due("no more", b.it.back(), NO);
        }
    }

    private static void olderOnesAreLost() {
        Bench b = new Bench();
        b.node(0, "V", VALUE, 0, 0);
        for (int i = 1; i <= 5; i++) {
            b.sends("V " + i);
        }
        for (int i = 4; i >= 0; i--) {
            due("back", b.it.back(), i);
            due("number", b.it.value(1, 1), i);
        }
        due("ahead of the NODE is lost", b.it.back(), NO);
        b.dueState("the NODE stays", 13, 2);
    }

    private static void statesFillAndEmptyAgain() {
        Bench b = new Bench();
        Deque<Integer> kept = new ArrayDeque<>();
        int now = 0;
        for (int round = 1; round <= 20; round++) {
            for (int i = 0; i <= round % 7; i++) {
                kept.addLast(now);
                if (kept.size() > 5) {
                    kept.removeFirst();
                }
                now = (now + round + i) % 16;
                b.it.masks(2, now);
            }
            for (int i = 0; i < round % 4 && !kept.isEmpty(); i++) {
                now = kept.removeLast();
                due("back in round " + round, b.it.back(), kept.size());
                b.dueState("ENABLE in round " + round, 8, now);
            }
        }
        while (!kept.isEmpty()) {
            now = kept.removeLast();
            due("back at the end", b.it.back(), kept.size());
            b.dueState("ENABLE at the end", 8, now);
        }
        due("none is left", b.it.back(), NO);
    }

    private static void eachCallToldSLeavesOne() {
        Bench.Call[] calls = {
            x -> x.node(0, 1, 0, 0), x -> x.range(1, 0, 9999), x -> x.sends(), x -> x.answer(), x -> x.fault(), x -> x.condition(0, 1),
            x -> x.masks(0, 1), x -> x.masks(1, 1), x -> x.masks(2, 1), x -> x.edges(), x -> x.finishes(0)
        };
        for (int i = 0; i < calls.length; i++) {
            Bench b = busy();
            b.text("N");
            List<Integer> before = b.seen();
            calls[i].on(b.it);
            due("call " + i + ": one more", b.it.told(4), 5);
            b.dueTold("call " + i + " is not refused", 0, 0, 0);
            due("call " + i + ": back", b.it.back(), 4);
            Bench.dueSame("call " + i + " is taken back", b.seen(), before);
        }
    }

    private static void otherCallsLeaveNone() {
        Bench.Call[] calls = {
            x -> x.of(1, 1), x -> x.value(1, 1), x -> x.type('N'), x -> x.clear(), x -> x.finds(), x -> x.state(3), x -> x.answers(0),
            x -> x.faults(0), x -> x.pending(0), x -> x.told(4), x -> (int) x.digest()
        };
        for (int i = 0; i < calls.length; i++) {
            Bench b = busy();
            calls[i].on(b.it);
            due("call " + i + ": no STATE", b.it.told(4), 4);
            b.dueTold("call " + i + " is not refused", 0, 0, 0);
        }
    }

    private static void alsoIfNothingBecomesOther() {
        Bench.Call[] calls = {
            x -> x.range(1, 0, 9999), x -> x.condition(0, 0), x -> x.masks(0, 15), x -> x.masks(1, 0), x -> x.masks(2, 0), x -> x.edges(),
            x -> x.sends()
        };
        for (int i = 0; i < calls.length; i++) {
            Bench b = new Bench();
            b.node(0, "V", VALUE, 0, 0);
            b.text("*CLS");
            List<Integer> before = b.seen();
            calls[i].on(b.it);
            due("call " + i + ": one more", b.it.told(4), 2);
            b.it.back();
            Bench.dueSame("call " + i, b.seen(), before);
        }
    }

    private static void refusedOnesLeaveNone() {
        Bench.Call[] calls = {
            x -> x.node(1, 1, 0, 0), x -> x.node(0, 1, 0, 0), x -> x.range(1, 1, 0), x -> x.condition(4, 1), x -> x.masks(0, 16),
            x -> x.finishes(2), x -> x.of(9, 9), x -> x.value(1, 0), x -> x.type(128), x -> x.state(14), x -> x.answers(-1), x -> x.faults(-1),
            x -> x.pending(-1), x -> x.told(5)
        };
        for (int i = 0; i < calls.length; i++) {
            int why = i == 1 ? NO : BAD;
            Bench.dueRefused("refused call " + i, BackEdgesTest::busy, why, calls[i]);
        }
    }

    private static void backLeavesTheTextAndHowOften() {
        Bench b = new Bench();
        b.node(0, "V", VALUE, 0, 0);
        b.sends("V 5");
        b.text("V 6");
        b.it.of(-1, 0);
        b.it.answer();
        due("back", b.it.back(), 1);
        due("back", b.it.back(), 0);
        due("bytes", b.it.told(3), 3);
        b.dueTold("they stay", 1, 1, 0);
        due("NODE is gone, THE TEXT not", b.it.sends(), 0);
        b.dueFaults("V is not found", -113);
        Bench c = new Bench();
        c.text("A".repeat(100));
        c.it.masks(0, 1);
        c.it.type('A');
        c.it.back();
        c.dueTold("FULL stays", 0, 0, 1);
        due("a full TEXT stays", c.it.told(3), 100);
        Bench d = new Bench();
        d.text("AB");
        d.it.masks(0, 1);
        d.it.clear();
        d.it.back();
        due("an empty TEXT stays", d.it.told(3), 0);
    }

    private static void backOverFullRows() {
        Bench b = busy();
        b.sends("S;S;V?;V?;V?;V?;V 10000;V 10000");
        b.text("");
        List<Integer> full = b.seen();
        b.dueStates("full", 48, 16, 32, 116, 2, 2, 15, 0, 0, 4, 1, 6, 4, 4);
        due("an ANSWER", b.it.answer(), 7);
        b.it.back();
        due("a FAULT", b.it.fault(), -222);
        b.it.back();
        b.it.finishes(2);
        b.it.back();
        b.sends("V?;V 10000;S");
        b.it.back();
        b.sends("*CLS;*RST");
        b.it.back();
        b.text("");
        Bench.dueSame("as it was", tailOf(b.seen()), tailOf(full));
        b.dueFaults("the last is not -350", -222, -113, -222, -222);
        b.dueAnswers("in their order", 7, 8, 7, 7, 7, 7);
    }

    /** Without bytes and STATES. */
    private static List<Integer> tailOf(List<Integer> seen) {
        return new ArrayList<>(seen.subList(2, seen.size()));
    }

    private static void backOverNodes() {
        Bench b = new Bench();
        b.node(0, "B", BRANCH, 0, 1);
        b.node(1, "V", VALUE, 3, 1);
        b.it.range(2, -4, 4);
        b.sends("V3 2");
        due("number", b.it.value(2, 3), 2);
        b.it.back();
        b.dueNumbers("the number is back", 2, -4, -4, -4);
        b.it.back();
        due("LOW is back", b.it.of(2, 4), 0);
        due("HIGH is back", b.it.of(2, 5), 9999);
        b.it.back();
        due("the NODE is gone", b.it.value(2, 1), BAD);
        due("and not found", b.finds("V"), NONE);
        due("its number again", b.node(0, "ACt", ACT, 1, 0), 2);
        int[] want = {0, 2, 1, 0, 0, 0, 2, 3, 0};
        for (int what = 0; what <= 8; what++) {
            due("of(2, " + what + ")", b.it.of(2, what), want[what]);
        }
        due("the new NAME", b.finds("ac1"), 2);
        b.sends("ACT");
        b.it.back();
        b.it.back();
        due("done once, taken back, made anew", b.node(0, "ACt", ACT, 1, 0), 2);
        due("how often", b.it.of(2, 8), 0);
    }

    private static void backOverAMessage() {
        Bench b = busy();
        List<Integer> before = tailOf(b.seen());
        b.sends("V 1;V2 2;V3 3;A;A;S;*ESE 1;*SRE 2;*ESR?;*OPC;V?;Q");
        due("one STATE for all UNITS", b.it.told(4), 5);
        b.it.back();
        Bench.dueSame("a MESSAGE is taken back whole", tailOf(b.seen()), before);
        b.sends("*RST;*CLS;V 5;V?");
        b.it.back();
        Bench.dueSame("RST and CLS, too", tailOf(b.seen()), before);
    }

    private static void backIsNotTakenBack() {
        Bench b = new Bench();
        b.it.masks(2, 1);
        b.it.masks(2, 2);
        b.it.masks(2, 3);
        b.it.back();
        b.it.back();
        b.dueState("two back", 8, 1);
        b.it.masks(2, 9);
        due("a new one behind", b.it.told(4), 2);
        b.it.back();
        b.dueState("it goes to where it was", 8, 1);
        b.it.back();
        b.dueState("and to the first", 8, 0);
    }

    private static void toldOfEachWhat() {
        Bench b = busy();
        b.text("ABC");
        int[] want = {0, 0, 0, 3, 4};
        for (int what = 0; what <= 4; what++) {
            due("told(" + what + ")", b.it.told(what), want[what]);
        }
        int[] wrong = {-1, 5, LEAST, GREATEST};
        for (int what : wrong) {
            Bench.dueRefused("told(" + what + ")", BackEdgesTest::busy, BAD, x -> x.told(what));
        }
    }

    private static void toldCountsEachKindOfRefusal() {
        Bench b = new Bench();
        for (int i = 1; i <= 100; i++) {
            due("BAD", b.it.told(-i), BAD);
            due("NO", b.it.answer(), NO);
        }
        for (int i = 1; i <= 100; i++) {
            b.it.type('A');
        }
        for (int i = 1; i <= 100; i++) {
            due("FULL", b.it.type('A'), FULL);
        }
        b.dueTold("a hundred each", 100, 100, 100);
        due("STATES", b.it.told(4), 0);
    }

    /** h = 2783, then h = 31 h + v for each v, in numbers without an end, cut to a long at the end. */
    private static long digestOf(Bench b) {
        List<Integer> all = new ArrayList<>();
        for (int what = 0; what <= 2; what++) {
            all.add(b.it.told(what));
        }
        all.addAll(b.seen());
        BigInteger h = BigInteger.valueOf(2783);
        for (int v : all) {
            h = h.multiply(BigInteger.valueOf(31)).add(BigInteger.valueOf(v));
        }
        return h.longValue();
    }

    private static void digestOfANewObject() {
        due("ROOT alone", new Bench().it.digest(), digestOf(new Bench()));
        due("the same of each", new Bench().it.digest(), new Bench().it.digest());
    }

    private static void digestWrapsAround() {
        Bench b = new Bench();
        b.text("N");
        for (int n = 1; n <= 15; n++) {
            b.it.node(0, n % 4, n % 4, n % 2);
            if (n % 4 == 1) {
                b.it.range(n, -9999 + n, 9999 - n);
            }
        }
        due("16 NODES", b.it.digest(), digestOf(b));
    }

    private static void digestOfFullRows() {
        Bench b = busy();
        b.sends("S;S;V3 9;V3?;V3?;V?;V?;V2?;V 10000;V 10000;V 10000");
        b.it.condition(3, 1);
        b.it.masks(1, 5);
        b.it.told(-1);
        b.it.back();
        b.it.node(0, 0, 0, 0);
        b.dueState("ANSWERS", 11, 6);
        b.dueState("FAULTS", 12, 4);
        b.dueState("PENDING", 9, 4);
        due("full rows", b.it.digest(), digestOf(b));
        b.it.answer();
        b.it.fault();
        b.it.finishes(1);
        due("one less of each", b.it.digest(), digestOf(b));
        b.sends("*CLS;*RST");
        due("no FAULTS, no PENDING", b.it.digest(), digestOf(b));
    }

    private static void digestChangesNothing() {
        Bench b = busy();
        List<Integer> before = b.seen();
        long first = b.it.digest();
        due("again", b.it.digest(), first);
        Bench.dueSame("digest", b.seen(), before);
        b.dueTold("digest", 0, 0, 0);
    }

    /** Every call with every mix of numbers at and beyond the edges, in an empty, a busy and a full object. */
    private static void anyNumbersInAnyState() {
        int[] numbers = {LEAST, -10000, -9999, -1, 0, 1, 2, 3, 4, 5, 8, 9, 13, 14, 15, 16, 31, 32, 99, 100, 127, 128, 255, 256, 9999,
            10000, GREATEST};
        for (int a : numbers) {
            for (int c : numbers) {
                eachCall(new Bench(), a, c);
                eachCall(busy(), a, c);
                eachCall(full(), a, c);
            }
        }
    }

    private static Bench full() {
        Bench b = busy();
        b.text("N");
        for (int i = 0; i < 12; i++) {
            b.it.node(0, 1, 3, 0);
        }
        b.sends("S;S;V?;V?;V?;V?;V?;V 10000;V 10000;V 10000;V;" + "V".repeat(54));
        return b;
    }

    private static void eachCall(Bench b, int a, int c) {
        BenchOrders x = b.it;
        x.node(a, c, 0, 0);
        x.node(0, 0, a, c);
        x.range(1, a, c);
        x.range(a, c, 5);
        x.of(a, c);
        x.value(a, c);
        x.type(a);
        x.sends();
        x.finds();
        x.condition(a, c);
        x.masks(a, c);
        x.edges();
        x.finishes(a);
        x.state(a);
        x.answers(a);
        x.faults(a);
        x.pending(a);
        x.told(a);
        x.answer();
        x.fault();
        x.back();
        long before = x.digest();
        due("the digest by the getters", before, digestOf(b));
        x.clear();
    }

    private static void fiveHundredAndTwelveCalls() {
        Bench b = new Bench();
        b.text("V");
        b.it.node(0, ACT, 0, 0);
        for (int calls = 4; calls <= 510; calls++) {
            due("sends", b.it.sends(), 1);
        }
        due("call 511: how often", b.it.of(1, 8), 507);
        due("call 512: back", b.it.back(), 4);
    }

    private static void objectsAreApart() {
        Bench a = busy();
        Bench b = new Bench();
        List<Integer> before = a.seen();
        b.node(0, "X", BRANCH, 0, 0);
        b.node(1, "Y", VALUE, 0, 0);
        b.sends("X:Y 5;Y?;*CLS;*RST;*ESE 1");
        b.it.back();
        b.it.told(9);
        Bench.dueSame("another object changes nothing", a.seen(), before);
        a.dueTold("nor how often", 0, 0, 0);
    }
}
