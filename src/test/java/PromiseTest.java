/** For each promise of the document: ordinary inputs, the edges that it names, wrong inputs. */
public final class PromiseTest {
    private static final int NONE = BenchOrders.NONE, BAD = BenchOrders.BAD, NO = BenchOrders.NO, FULL = BenchOrders.FULL;
    private static final int LEAST = Integer.MIN_VALUE, GREATEST = Integer.MAX_VALUE;

    private PromiseTest() {
    }

    public static void main(String[] args) {
        promise1NewObject();
        promise2Node();
        promise2Names();
        promise2Full();
        promise3Range();
        promise4Of();
        promise5Value();
        promise6Type();
        promise7Clear();
        promise8Sends();
        promise9Finds();
        promise10Answer();
        promise11Fault();
        promise12Condition();
        promise13Masks();
        promise14Edges();
        promise15Finishes();
        promise16State();
        promises17To19Rows();
        promise20Back();
        promise20EveryCallToldS();
        promise21Told();
        promise22Digest();
        Bench.end();
    }

    private static void due(String what, long got, long want) {
        Bench.due(what, got, want);
    }

    private static void promise1NewObject() {
        due("NONE", NONE, -10001);
        due("BAD", BAD, -10002);
        due("NO", NO, -10003);
        due("FULL", FULL, -10004);
        BenchOrders x = new BenchOrders();
        int[] states = {0, 0, 0, 0, 0, 0, 15, 0, 0, 0, 0, 0, 0, 1};
        for (int what = 0; what < states.length; what++) {
            due("new: state(" + what + ")", x.state(what), states[what]);
        }
        int[] root = {NONE, 0, 0, 0, 0, 0, 0, 0, 0};
        for (int what = 0; what < root.length; what++) {
            due("new: of(0, " + what + ")", x.of(0, what), root[what]);
        }
        for (int what = 0; what <= 4; what++) {
            due("new: told(" + what + ")", x.told(what), 0);
        }
        due("new: of(1, 0)", x.of(1, 0), BAD);
    }

    private static void promise2Node() {
        Bench b = new Bench();
        due("node", b.node(0, "SOURce", 0, 2, 1), 1);
        due("THE TEXT stays", b.it.told(3), 6);
        due("node on the same TEXT", b.it.node(1, 1, 3, 0), 2);
        due("act", b.node(1, "X", 2, 0, 0), 3);
        due("slow act", b.node(0, "Y", 3, 1, 1), 4);
        b.dueState("nodes", 13, 5);
        due("STATES", b.it.told(4), 4);
        b.text("GOOD");
        int[][] wrong = {
            {-1, 0, 0, 0}, {5, 0, 0, 0}, {2, 0, 0, 0}, {3, 0, 0, 0}, {4, 0, 0, 0}, {16, 0, 0, 0}, {LEAST, 0, 0, 0},
            {GREATEST, 0, 0, 0}, {0, -1, 0, 0}, {0, 4, 0, 0}, {0, LEAST, 0, 0}, {0, GREATEST, 0, 0}, {0, 0, -1, 0},
            {0, 0, 4, 0}, {0, 0, GREATEST, 0}, {0, 0, 0, -1}, {0, 0, 0, 2}, {0, 0, 0, LEAST}
        };
        for (int[] w : wrong) {
            due("wrong node", b.it.node(w[0], w[1], w[2], w[3]), BAD);
        }
        b.text("no name");
        due("BAD is ahead of NO", b.it.node(0, 4, 0, 0), BAD);
        due("no name", b.it.node(0, 0, 0, 0), NO);
        b.dueState("refused ones make none", 13, 5);
        due("refused ones leave no STATE", b.it.told(4), 4);
        b.dueTold("node", wrong.length + 1, 1, 0);
    }

    private static void promise2Names() {
        Bench b = new Bench();
        String[] wrong = {
            "", "a", "aB", "AbC", "A1", "A ", " A", "ABCDEFGHI", "Abcdefghi", "A:b", "A?", "@", "[", "`", "{", "A@", "Aa[",
            "Ab`", "Ab{", "\u0000", "A\u007f"
        };
        for (String name : wrong) {
            due("name '" + name + "'", b.node(0, name, 0, 0, 0), NO);
        }
        String[] right = {"A", "Z", "Az", "ABCDEFGH", "Abcdefgh", "ABCDEFGh", "AZaz"};
        int[] capitals = {1, 1, 1, 8, 1, 7, 2};
        for (int i = 0; i < right.length; i++) {
            due("name '" + right[i] + "'", b.node(0, right[i], 0, 0, 0), i + 1);
            due("short form of " + right[i], b.it.of(i + 1, 6), capitals[i]);
            due("long form of " + right[i], b.it.of(i + 1, 7), right[i].length());
        }
    }

    private static void promise2Full() {
        Bench b = new Bench();
        b.text("A");
        for (int n = 1; n <= 15; n++) {
            due("node " + n, b.it.node(0, 1, 0, 0), n);
        }
        due("a 17th", b.it.node(0, 1, 0, 0), FULL);
        due("BAD is ahead of FULL", b.it.node(1, 1, 0, 0), BAD);
        b.text("a");
        due("NO is ahead of FULL", b.it.node(0, 1, 0, 0), NO);
        b.dueState("sixteen", 13, 16);
        b.dueTold("sixteen", 1, 1, 1);
        due("the last", b.it.value(15, 3), 0);
        due("behind the last", b.it.value(16, 1), BAD);
    }

    private static void promise3Range() {
        Bench b = new Bench();
        int v = b.node(0, "V", 1, 3, 0);
        int branch = b.node(0, "B", 0, 0, 0);
        int act = b.node(0, "A", 2, 0, 0);
        due("range", b.it.range(v, -5, 50), 0);
        for (int s = 1; s <= 3; s++) {
            due("LOW at once", b.it.value(v, s), -5);
        }
        due("set", b.sends("V2 7"), 1);
        due("range again", b.it.range(v, -9999, 9999), -5);
        due("numbers become a", b.it.value(v, 2), -9999);
        due("LOW", b.it.of(v, 4), -9999);
        due("HIGH", b.it.of(v, 5), 9999);
        due("one number", b.it.range(v, 9999, 9999), -9999);
        int states = b.it.told(4);
        int[][] wrong = {
            {v, 1, 0}, {v, -10000, 0}, {v, 0, 10000}, {v, LEAST, 0}, {v, 0, GREATEST}, {branch, 0, 1}, {act, 0, 1}, {0, 0, 1},
            {-1, 0, 1}, {4, 0, 1}, {16, 0, 1}, {LEAST, 0, 1}, {GREATEST, 0, 1}, {v, 9999, -9999}
        };
        for (int[] w : wrong) {
            due("wrong range", b.it.range(w[0], w[1], w[2]), BAD);
        }
        due("refused ones change nothing", b.it.of(v, 4), 9999);
        due("refused ones leave no STATE", b.it.told(4), states);
        b.dueTold("range", wrong.length, 0, 0);
    }

    private static void promise4Of() {
        Bench b = new Bench();
        b.node(0, "SOURce", 0, 2, 1);
        b.node(1, "VOLTage", 1, 3, 0);
        b.node(1, "GO", 2, 0, 1);
        b.node(1, "Wait", 3, 1, 0);
        b.it.range(2, -3, 8);
        due("sends", b.sends("SOUR:VOLT 4;GO;GO;:SOURce:WAIT;:GO"), 5);
        int[][] want = {
            {NONE, 0, 0, 0, 0, 0, 0, 0, 0}, {0, 0, 2, 1, 0, 0, 4, 6, 0}, {1, 1, 3, 0, -3, 8, 4, 7, 0},
            {1, 2, 0, 1, 0, 0, 2, 2, 3}, {1, 3, 1, 0, 0, 0, 1, 4, 1}
        };
        for (int n = 0; n < want.length; n++) {
            for (int what = 0; what <= 8; what++) {
                due("of(" + n + ", " + what + ")", b.it.of(n, what), want[n][what]);
            }
        }
        int[][] wrong = {{-1, 0}, {5, 0}, {16, 0}, {LEAST, 0}, {GREATEST, 0}, {0, -1}, {0, 9}, {1, LEAST}, {1, GREATEST}};
        for (int[] w : wrong) {
            due("wrong of", b.it.of(w[0], w[1]), BAD);
        }
        b.dueTold("of", wrong.length, 0, 0);
        b.sends("*RST");
        due("RST leaves how often it was done", b.it.of(3, 8), 3);
    }

    private static void promise5Value() {
        Bench b = new Bench();
        b.node(0, "B", 0, 0, 0);
        b.node(0, "V", 1, 3, 0);
        b.node(0, "A", 2, 0, 0);
        b.sends("V 5;V2 6;V3 7");
        for (int s = 1; s <= 3; s++) {
            due("value", b.it.value(2, s), 4 + s);
        }
        int[][] wrong = {{0, 1}, {1, 1}, {3, 1}, {4, 1}, {-1, 1}, {GREATEST, 1}, {LEAST, 1}, {2, 0}, {2, 4}, {2, -1}, {2, LEAST}};
        for (int[] w : wrong) {
            due("wrong value", b.it.value(w[0], w[1]), BAD);
        }
        b.dueTold("value", wrong.length, 0, 0);
    }

    private static void promise6Type() {
        Bench b = new Bench();
        due("least byte", b.it.type(0), 1);
        due("greatest byte", b.it.type(127), 2);
        due("below", b.it.type(-1), BAD);
        due("above", b.it.type(128), BAD);
        due("far above", b.it.type(GREATEST), BAD);
        due("far below", b.it.type(LEAST), BAD);
        for (int i = 3; i <= 100; i++) {
            due("type", b.it.type(65), i);
        }
        due("full", b.it.type(65), FULL);
        due("BAD is ahead of FULL", b.it.type(128), BAD);
        due("a hundred", b.it.told(3), 100);
        due("no STATE", b.it.told(4), 0);
        b.dueTold("type", 5, 0, 1);
    }

    private static void promise7Clear() {
        Bench b = new Bench();
        due("empty", b.it.clear(), 0);
        b.text("ABC");
        due("three", b.it.clear(), 3);
        due("none left", b.it.told(3), 0);
        due("no STATE", b.it.told(4), 0);
        due("anew", b.it.type(65), 1);
        due("name of the new one alone", b.it.node(0, 0, 0, 0), 1);
        due("its length", b.it.of(1, 7), 1);
    }

    private static void promise8Sends() {
        Bench b = new Bench();
        b.node(0, "V", 1, 3, 0);
        due("one", b.sends("V 3"), 1);
        due("THE TEXT stays", b.it.told(3), 3);
        due("STATES", b.it.told(4), 2);
        due("once more", b.it.sends(), 1);
        due("a STATE also if nothing becomes other", b.it.told(4), 3);
        due("with -222", b.sends("V 10000;V 4;V -1"), 3);
        due("with -430", b.sends("V?;V?;V?;V?;V?;V?;V?;V?"), 8);
        due("up to the fault", b.sends("V 5;V 6;W;V 7"), 2);
        due("the rest is not done", b.it.value(1, 1), 6);
        due("nothing", b.sends(""), 0);
        b.dueTold("by a MESSAGE nothing counts", 0, 0, 0);
        StringBuilder many = new StringBuilder("V?");
        while (many.length() < 99) {
            many.append(many.length() < 98 ? ";V?" : " ");
        }
        due("the longest", b.sends(many.toString()), 33);
        StringBuilder semicolons = new StringBuilder();
        while (semicolons.length() < 100) {
            semicolons.append(';');
        }
        due("a hundred ;", b.sends(semicolons.toString()), 0);
    }

    private static void promise9Finds() {
        Bench b = new Bench();
        b.node(0, "A", 0, 0, 1);
        b.node(1, "Bc", 0, 2, 0);
        b.node(2, "C", 0, 0, 1);
        b.node(3, "D", 1, 3, 0);
        String[] right = {"A:B:C:D", "a:bc2:c:d3", "B1:D", "BC:C:d", "A:B:D1"};
        for (String row : right) {
            due("finds of " + row, b.finds(row), 4);
        }
        String[] wrong = {
            "", ":B:D", "B:D ", " B:D", "B:D?", "B:D 1", "B:D;", "B::D", "B:", ":", "A:B:C:D:", "A:B:C:D:E", "B3:D", "B0:D",
            "B:D4", "B:D11", "A", "B", "A:B:C", "D", "*CLS", "BCC:D", "B:D:D", "A1:B:D", "B:ABCDEFGHI", "1", "B 1"
        };
        for (String row : wrong) {
            due("finds of " + row, b.finds(row), NONE);
        }
        due("no STATES by finds", b.it.told(4), 4);
        b.dueTold("finds is never refused", 0, 0, 0);
    }

    private static void promise10Answer() {
        Bench b = new Bench();
        due("none", b.it.answer(), NO);
        b.dueTold("none", 0, 1, 0);
        due("no STATE", b.it.told(4), 0);
        b.node(0, "V", 1, 3, 0);
        b.sends("V 1;V2 2;V3 3;V?;V2?;V3?");
        due("first", b.it.answer(), 1);
        b.dueAnswers("two left", 2, 3);
        due("second", b.it.answer(), 2);
        due("third", b.it.answer(), 3);
        due("STATES", b.it.told(4), 5);
        due("none left", b.it.answer(), NO);
    }

    private static void promise11Fault() {
        Bench b = new Bench();
        due("none", b.it.fault(), NO);
        b.dueTold("none", 0, 1, 0);
        b.sends("");
        b.sends("X");
        due("first", b.it.fault(), -102);
        b.dueFaults("one left", -113);
        due("second", b.it.fault(), -113);
        due("STATES", b.it.told(4), 4);
        due("none left", b.it.fault(), NO);
        b.dueState("EVENTS stay", 0, 32);
    }

    private static void promise12Condition() {
        for (int bit = 0; bit <= 3; bit++) {
            BenchOrders x = new BenchOrders();
            due("rises", x.condition(bit, 1), 0);
            due("CONDITIONS", x.state(4), 1 << bit);
            due("EDGE of a rise", x.state(5), 1 << bit);
            x.edges();
            due("stays", x.condition(bit, 1), 1);
            due("no EDGE", x.state(5), 0);
            due("falls", x.condition(bit, 0), 1);
            due("no EDGE of a fall", x.state(5), 0);
            due("stays 0", x.condition(bit, 0), 0);
            x.masks(0, 15 - (1 << bit));
            x.masks(1, 1 << bit);
            x.condition(bit, 1);
            due("no EDGE of a rise", x.state(5), 0);
            x.condition(bit, 0);
            due("EDGE of a fall", x.state(5), 1 << bit);
            due("STATES", x.told(4), 5);
        }
        BenchOrders x = new BenchOrders();
        int[][] wrong = {{-1, 0}, {4, 0}, {0, -1}, {0, 2}, {LEAST, 1}, {GREATEST, 1}, {32, 1}, {0, LEAST}, {0, GREATEST}};
        for (int[] w : wrong) {
            due("wrong condition", x.condition(w[0], w[1]), BAD);
        }
        due("refused", x.told(0), wrong.length);
        due("no STATE", x.told(4), 0);
        due("a STATE of what changes nothing", x.condition(0, 0), 0);
        due("one STATE", x.told(4), 1);
    }

    private static void promise13Masks() {
        BenchOrders x = new BenchOrders();
        due("RISES", x.masks(0, 5), 15);
        due("FALLS", x.masks(1, 6), 0);
        due("ENABLE", x.masks(2, 15), 0);
        due("RISES again", x.masks(0, 0), 5);
        due("FALLS again", x.masks(1, 9), 6);
        due("ENABLE again", x.masks(2, 3), 15);
        due("state(6)", x.state(6), 0);
        due("state(7)", x.state(7), 9);
        due("state(8)", x.state(8), 3);
        int[][] wrong = {{-1, 0}, {3, 0}, {LEAST, 0}, {GREATEST, 0}, {0, -1}, {1, 16}, {2, 16}, {0, LEAST}, {2, GREATEST}};
        for (int[] w : wrong) {
            due("wrong masks", x.masks(w[0], w[1]), BAD);
        }
        due("refused", x.told(0), wrong.length);
        due("STATES", x.told(4), 5);
    }

    private static void promise14Edges() {
        BenchOrders x = new BenchOrders();
        due("none", x.edges(), 0);
        due("a STATE", x.told(4), 1);
        x.condition(1, 1);
        x.condition(3, 1);
        due("two", x.edges(), 10);
        due("gone", x.edges(), 0);
        due("CONDITIONS stay", x.state(4), 10);
    }

    private static void promise15Finishes() {
        Bench b = new Bench();
        b.node(0, "A", 3, 0, 0);
        b.node(0, "B", 3, 0, 0);
        b.node(0, "C", 3, 0, 0);
        due("nothing is PENDING", b.it.finishes(0), BAD);
        b.sends("A;B;C;A;*OPC");
        due("below", b.it.finishes(-1), BAD);
        due("above", b.it.finishes(4), BAD);
        due("far above", b.it.finishes(GREATEST), BAD);
        due("far below", b.it.finishes(LEAST), BAD);
        due("second", b.it.finishes(1), 3);
        due("row 0", b.it.pending(0), 1);
        due("row 1", b.it.pending(1), 3);
        due("row 2", b.it.pending(2), 1);
        due("last", b.it.finishes(2), 2);
        due("first", b.it.finishes(0), 1);
        b.dueState("not yet", 0, 0);
        b.dueState("WAITING", 10, 1);
        due("all", b.it.finishes(0), 0);
        b.dueState("EVENT 1", 0, 1);
        b.dueState("WAITING no more", 10, 0);
        b.dueTold("finishes", 5, 0, 0);
        b.sends("*CLS;A");
        due("not WAITING", b.it.finishes(0), 0);
        b.dueState("no EVENT", 0, 0);
    }

    private static void promise16State() {
        Bench b = new Bench();
        b.node(0, "S", 3, 0, 0);
        b.node(0, "V", 1, 0, 0);
        b.sends("*ESE 48;*SRE 255;S;S;*OPC;V?;V 10000;");
        b.it.condition(2, 1);
        b.it.condition(0, 1);
        b.it.condition(0, 0);
        b.it.masks(0, 12);
        b.it.masks(1, 7);
        b.it.masks(2, 4);
        int[] want = {48, 48, 255, 4 + 16 + 32 + 64 + 128, 4, 5, 12, 7, 4, 2, 1, 1, 2, 3};
        for (int what = 0; what < want.length; what++) {
            b.dueState("all of them", what, want[what]);
        }
        b.dueState("EDGES stay", 5, 5);
        int[] wrong = {-1, 14, LEAST, GREATEST};
        for (int w : wrong) {
            b.dueState("wrong", w, BAD);
        }
        b.dueTold("state", wrong.length, 0, 0);
    }

    private static void promises17To19Rows() {
        Bench b = new Bench();
        b.node(0, "S", 3, 0, 0);
        b.node(0, "T", 3, 0, 0);
        b.sends("S;T;S?;*OPC?;*ESE 256;");
        due("answers(0)", b.it.answers(0), 1);
        due("answers(1)", b.it.answers(1), 0);
        due("answers(2)", b.it.answers(2), NONE);
        due("answers far", b.it.answers(GREATEST), NONE);
        due("faults(0)", b.it.faults(0), -222);
        due("faults(1)", b.it.faults(1), -102);
        due("faults(2)", b.it.faults(2), NONE);
        due("faults far", b.it.faults(GREATEST), NONE);
        due("pending(0)", b.it.pending(0), 1);
        due("pending(1)", b.it.pending(1), 2);
        due("pending(2)", b.it.pending(2), NONE);
        due("pending far", b.it.pending(GREATEST), NONE);
        due("an ANSWER that has gone", b.it.answer(), 1);
        due("is not seen behind the end", b.it.answers(1), NONE);
        b.dueTold("NONE is no refusal", 0, 0, 0);
        int[] wrong = {-1, LEAST};
        for (int w : wrong) {
            due("answers below", b.it.answers(w), BAD);
            due("faults below", b.it.faults(w), BAD);
            due("pending below", b.it.pending(w), BAD);
        }
        b.dueTold("below", 6, 0, 0);
        due("no STATES by getters", b.it.told(4), 4);
    }

    private static void promise20Back() {
        Bench b = new Bench();
        due("none", b.it.back(), NO);
        b.dueTold("none", 0, 1, 0);
        b.node(0, "V", 1, 0, 0);
        b.sends("V 5");
        b.text("LEFT");
        b.it.of(9, 9);
        due("one back", b.it.back(), 1);
        due("the number", b.it.value(1, 1), 0);
        due("THE TEXT is as it was", b.it.told(3), 4);
        b.dueTold("refusals stay", 1, 1, 0);
        due("the NODE too", b.it.back(), 0);
        b.dueState("ROOT alone", 13, 1);
        due("no such NODE", b.it.of(1, 0), BAD);
        due("none left", b.it.back(), NO);
        due("its place is used again", b.node(0, "Abc", 2, 1, 1), 1);
        due("KIND of the new one", b.it.of(1, 1), 2);
        due("HIGH of the new one", b.it.of(1, 5), 0);
        due("the old name is gone", b.finds("V"), NONE);
        due("the new one", b.finds("abc1"), 1);
        for (int i = 1; i <= 7; i++) {
            b.it.masks(2, i);
        }
        due("five at most", b.it.told(4), 5);
        for (int i = 1; i <= 5; i++) {
            due("back", b.it.back(), 5 - i);
            b.dueState("ENABLE", 8, 7 - i);
        }
        due("older ones are lost", b.it.back(), NO);
        b.it.masks(2, 9);
        due("one again", b.it.back(), 0);
        b.dueState("ENABLE again", 8, 2);
    }

    /** Each call told S is taken back whole: all but how often refused, THE TEXT and STATES. */
    private static void promise20EveryCallToldS() {
        String[] calls = {
            "node", "range", "sends", "answer", "fault", "condition", "masks 0", "masks 1", "masks 2", "edges", "finishes",
            "CLS", "RST", "ESR", "slow", "act", "loss"
        };
        for (String call : calls) {
            Bench b = busyBench();
            b.text("W");
            long before = b.it.digest();
            due(call + ": STATES ahead", b.it.told(4), 4);
            doCall(b, call);
            due(call + ": STATES", b.it.told(4), 5);
            due(call + ": back", b.it.back(), 4);
            b.text("W");
            due(call + ": all as it was", b.it.digest(), before);
        }
    }

    private static Bench busyBench() {
        Bench b = new Bench();
        b.node(0, "V", 1, 3, 0);
        b.node(0, "S", 3, 0, 0);
        b.node(0, "A", 2, 0, 0);
        b.sends("*ESE 17;*SRE 32;*OPC;V 7;V2 8;V3 9;S;S;A;*OPC;V?;V2?;V3?;V 10000;X");
        b.it.condition(1, 1);
        // One more that is taken back at once: then there is room for a STATE without a loss.
        b.it.masks(2, 15);
        b.it.back();
        return b;
    }

    private static void doCall(Bench b, String call) {
        switch (call) {
            case "node": b.node(0, "N", 1, 1, 1); break;
            case "range": b.it.range(1, -4, 4); break;
            case "sends": b.sends("V 1;V2 2;*ESE 3;*SRE 4"); break;
            case "answer": b.it.answer(); break;
            case "fault": b.it.fault(); break;
            case "condition": b.it.condition(0, 1); break;
            case "masks 0": b.it.masks(0, 3); break;
            case "masks 1": b.it.masks(1, 3); break;
            case "masks 2": b.it.masks(2, 3); break;
            case "edges": b.it.edges(); break;
            case "finishes": b.it.finishes(0); break;
            case "CLS": b.sends("*CLS"); break;
            case "RST": b.sends("*RST"); break;
            case "ESR": b.sends("*ESR?"); break;
            case "slow": b.sends("S"); break;
            case "act": b.sends("A"); break;
            default: b.sends("*ESR?;*ESR?;*ESR?;*ESR?;*ESR?;V?;X"); break;
        }
    }

    private static void promise21Told() {
        Bench b = new Bench();
        b.it.type(-1);
        b.it.type(200);
        b.it.answer();
        b.text("A");
        for (int n = 1; n <= 17; n++) {
            b.it.node(0, 0, 0, 0);
        }
        b.dueTold("each", 2, 1, 2);
        due("bytes", b.it.told(3), 1);
        due("STATES", b.it.told(4), 5);
        int[] wrong = {-1, 5, LEAST, GREATEST};
        for (int w : wrong) {
            due("wrong told", b.it.told(w), BAD);
        }
        due("they count", b.it.told(0), 6);
    }

    private static void promise22Digest() {
        BenchOrders x = new BenchOrders();
        long h = 2783;
        int[] rows = {0, 0, 0, 0, 0, 0, 0, 0, 0, 0, 0, 15, 0, 0, 0, 0, 0, 0, 1, NONE, 0, 0, 0, 0, 0, 0, 0, 0};
        for (int v : rows) {
            h = 31 * h + v;
        }
        due("digest of a new one", x.digest(), h);
        Bench b = new Bench();
        b.node(0, "Br", 0, 1, 1);
        b.node(1, "Va", 1, 2, 0);
        b.node(1, "Sl", 3, 0, 0);
        b.it.range(2, -2, 99);
        b.it.told(9);
        b.sends("VA 5;va2?;SL;SL;X");
        due("digest", b.it.digest(), digestByGetters(b.it));
        due("digest changes nothing", b.it.digest(), digestByGetters(b.it));
    }

    private static long digestByGetters(BenchOrders x) {
        long h = 2783;
        for (int what = 0; what <= 4; what++) {
            h = 31 * h + x.told(what);
        }
        for (int what = 0; what <= 13; what++) {
            h = 31 * h + x.state(what);
        }
        for (int n = 0; n < x.state(13); n++) {
            for (int what = 0; what <= 8; what++) {
                h = 31 * h + x.of(n, what);
            }
            for (int s = 1; s <= 3 && x.of(n, 1) == 1; s++) {
                h = 31 * h + x.value(n, s);
            }
        }
        for (int i = 0; i < x.state(11); i++) {
            h = 31 * h + x.answers(i);
        }
        for (int i = 0; i < x.state(12); i++) {
            h = 31 * h + x.faults(i);
        }
        for (int i = 0; i < x.state(9); i++) {
            h = 31 * h + x.pending(i);
        }
        return h;
    }
}
