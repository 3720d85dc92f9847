/** The edges that the document names of NODES, NAMES, ranges, WORDS and FINDING (promises 1 to 5 and 9). */
public final class TreeEdgesTest {
    private static final int NONE = BenchOrders.NONE, BAD = BenchOrders.BAD, NO = BenchOrders.NO, FULL = BenchOrders.FULL;
    private static final int LEAST = Bench.LEAST, GREATEST = Bench.GREATEST;
    private static final int BRANCH = 0, VALUE = 1, ACT = 2, SLOW = 3;

    private TreeEdgesTest() {
    }

    public static void main(String[] args) {
        rootIsAtFirstAlone();
        neverMoreThan16Nodes();
        sixteenAgainBehindBack();
        onlyRootAndBranchesMayBeParents();
        aNodeTakenBackIsNoParent();
        kindIs0To3();
        mostIs0To3();
        leftOutIs0Or1();
        aNameHas1To8Letters();
        aNameBeginsWithCapitals();
        theFirstRefusalOfNode();
        theTextStaysAsNameOfSeveral();
        valueIs0To9999AtFirst();
        lowAndHighAreWithin9999();
        highIsNotBelowLow();
        rangeMakesNumbersLow();
        rangeIsOfThatValueAlone();
        rangeIsOfAValueAlone();
        rangeAnswersLowAsItWas();
        ofEachWhat();
        ofEachNode();
        valueOfEachSuffix();
        Bench.end();
    }

    private static void due(String what, long got, long want) {
        Bench.due(what, got, want);
    }

    /** ROOT, and one NODE of each KIND below it: 1 BRANCH, 2 VALUE, 3 ACT, 4 SLOW ACT. */
    private static Bench eachKind() {
        Bench b = new Bench();
        b.node(0, "B", BRANCH, 1, 0);
        b.node(0, "V", VALUE, 2, 1);
        b.node(0, "A", ACT, 3, 0);
        b.node(0, "S", SLOW, 0, 0);
        b.text("N");
        return b;
    }

    private static Bench sixteen() {
        Bench b = new Bench();
        b.text("N");
        for (int n = 1; n <= 15; n++) {
            b.it.node(0, n % 4, 3, 0);
        }
        return b;
    }

    private static void rootIsAtFirstAlone() {
        due("the first number", new Bench().node(0, "N", 0, 0, 0), 1);
        Bench b = new Bench();
        b.dueStates("a new object", 0, 0, 0, 0, 0, 0, 15, 0, 0, 0, 0, 0, 0, 1);
        b.dueAnswers("a new object");
        b.dueFaults("a new object");
        b.duePending("a new object");
        due("no NODE 1", b.it.of(1, 0), BAD);
        due("no NODE 15", b.it.of(15, 0), BAD);
        due("THE TEXT is empty", b.it.clear(), 0);
        due("nothing is found", b.it.finds(), NONE);
        due("nothing is found in ROOT alone", b.finds("A"), NONE);
        due("no ANSWER", b.it.answer(), NO);
        due("no FAULT", b.it.fault(), NO);
        due("nothing is PENDING", b.it.finishes(0), BAD);
        due("no STATE", b.it.back(), NO);
        b.dueTold("a new object", 3, 3, 0);
    }

    private static void neverMoreThan16Nodes() {
        Bench b = new Bench();
        b.text("N");
        for (int n = 1; n <= 15; n++) {
            b.dueState("ahead of NODE " + n, 13, n);
            due("NODE " + n, b.it.node(0, n % 4, 3, n % 2), n);
        }
        b.dueState("full", 13, 16);
        for (int kind = 0; kind <= 3; kind++) {
            due("one more of KIND " + kind, b.it.node(0, kind, 0, 0), FULL);
        }
        b.dueState("full yet", 13, 16);
        b.dueTold("full", 0, 0, 4);
        due("NODE 16", b.it.of(16, 0), BAD);
        Bench.dueRefused("a 17th NODE", TreeEdgesTest::sixteen, FULL, x -> x.node(0, 1, 0, 0));
    }

    private static void sixteenAgainBehindBack() {
        Bench b = sixteen();
        b.it.back();
        b.dueState("one is taken back", 13, 15);
        due("the last again", b.it.node(0, VALUE, 0, 0), 15);
        due("its KIND", b.it.of(15, 1), VALUE);
        due("and no more", b.it.node(0, VALUE, 0, 0), FULL);
        Bench c = new Bench();
        c.text("N");
        for (int n = 1; n <= 14; n++) {
            c.it.node(0, VALUE, 0, 0);
        }
        c.it.node(0, BRANCH, 0, 0);
        due("the last as PARENT when full", c.it.node(15, 0, 0, 0), FULL);
        due("behind the last as PARENT", c.it.node(16, 0, 0, 0), BAD);
    }

    private static void onlyRootAndBranchesMayBeParents() {
        int[] parents = {0, 1};
        for (int p : parents) {
            Bench b = eachKind();
            due("PARENT " + p, b.it.node(p, 0, 0, 0), 5);
            due("it is the PARENT", b.it.of(5, 0), p);
            due("and may be one", b.it.node(5, 0, 0, 0), 6);
        }
        int[] others = {2, 3, 4, 5, 6, 15, 16, 17, -1, NONE, LEAST, GREATEST};
        for (int p : others) {
            Bench.dueRefused("node below " + p, TreeEdgesTest::eachKind, BAD, x -> x.node(p, 0, 0, 0));
        }
    }

    private static void aNodeTakenBackIsNoParent() {
        Bench b = new Bench();
        b.node(0, "B", BRANCH, 0, 0);
        b.node(1, "C", BRANCH, 0, 0);
        b.it.back();
        due("below one taken back", b.it.node(2, 0, 0, 0), BAD);
        due("of one taken back", b.it.of(2, 0), BAD);
        due("one taken back is not found", b.finds("B:C"), NONE);
        due("its number again", b.node(0, "V", VALUE, 0, 0), 2);
        due("it is no BRANCH now", b.it.node(2, 0, 0, 0), BAD);
        due("its range", b.it.range(2, 4, 5), 0);
        b.it.back();
        b.it.back();
        due("a VALUE taken back", b.it.value(2, 1), BAD);
        due("range of a VALUE taken back", b.it.range(2, 0, 1), BAD);
        due("as it was at first", b.node(0, "V", VALUE, 0, 0), 2);
        due("LOW", b.it.of(2, 4), 0);
        due("HIGH", b.it.of(2, 5), 9999);
        b.dueNumbers("LOW at first", 2, 0, 0, 0);
    }

    private static void kindIs0To3() {
        for (int k = 0; k <= 3; k++) {
            Bench b = eachKind();
            due("KIND " + k, b.it.node(0, k, 0, 0), 5);
            due("its KIND", b.it.of(5, 1), k);
        }
        int[] wrong = {-1, 4, LEAST, GREATEST};
        for (int k : wrong) {
            Bench.dueRefused("node of KIND " + k, TreeEdgesTest::eachKind, BAD, x -> x.node(0, k, 0, 0));
        }
    }

    private static void mostIs0To3() {
        for (int k = 0; k <= 3; k++) {
            for (int m = 0; m <= 3; m++) {
                Bench b = eachKind();
                due("MOST " + m, b.it.node(0, k, m, 0), 5);
                due("its MOST", b.it.of(5, 2), m);
            }
        }
        int[] wrong = {-1, 4, 9, LEAST, GREATEST};
        for (int m : wrong) {
            Bench.dueRefused("node of MOST " + m, TreeEdgesTest::eachKind, BAD, x -> x.node(0, 0, m, 0));
        }
    }

    private static void leftOutIs0Or1() {
        for (int out = 0; out <= 1; out++) {
            Bench b = eachKind();
            due("LEFT OUT " + out, b.it.node(0, 0, 0, out), 5);
            due("its LEFT OUT", b.it.of(5, 3), out);
        }
        int[] wrong = {-1, 2, LEAST, GREATEST};
        for (int out : wrong) {
            Bench.dueRefused("node of LEFT OUT " + out, TreeEdgesTest::eachKind, BAD, x -> x.node(0, 0, 0, out));
        }
    }

    private static void aNameHas1To8Letters() {
        for (int capitals = 1; capitals <= 10; capitals++) {
            for (int small = 0; small <= 10; small++) {
                Bench b = new Bench();
                int letters = capitals + small;
                String name = "ABCDEFGHIJ".substring(0, capitals) + "klmnopqrst".substring(0, small);
                due("NAME " + name, b.node(0, name, 0, 0, 0), letters <= 8 ? 1 : NO);
                due("SHORT form of " + name, b.it.of(1, 6), letters <= 8 ? capitals : BAD);
                due("LONG form of " + name, b.it.of(1, 7), letters <= 8 ? letters : BAD);
            }
        }
        Bench.dueRefused("an empty NAME", () -> eachKind().text(""), NO, x -> x.node(0, 0, 0, 0));
        Bench.dueRefused("9 letters", () -> eachKind().text("ABCDEFGHI"), NO, x -> x.node(0, 0, 0, 0));
        Bench.dueRefused("100 letters", () -> eachKind().text("A".repeat(100)), NO, x -> x.node(0, 0, 0, 0));
    }

    private static void aNameBeginsWithCapitals() {
        for (int c = 0; c <= 127; c++) {
            boolean isCapital = c >= 'A' && c <= 'Z';
            boolean isSmall = c >= 'a' && c <= 'z';
            String sign = String.valueOf((char) c);
            due("NAME of byte " + c, new Bench().node(0, sign, 0, 0, 0), isCapital ? 1 : NO);
            due("A and byte " + c, new Bench().node(0, "A" + sign, 0, 0, 0), isCapital || isSmall ? 1 : NO);
            due("Aa and byte " + c, new Bench().node(0, "Aa" + sign, 0, 0, 0), isSmall ? 1 : NO);
            due("byte " + c + " and A", new Bench().node(0, sign + "A", 0, 0, 0), isCapital ? 1 : NO);
            due("byte " + c + " and a", new Bench().node(0, sign + "a", 0, 0, 0), isCapital ? 1 : NO);
            due("7 letters and byte " + c, new Bench().node(0, "Abcdefg" + sign, 0, 0, 0), isSmall ? 1 : NO);
        }
    }

    private static void theFirstRefusalOfNode() {
        Bench b = sixteen();
        due("FULL", b.it.node(0, 0, 0, 0), FULL);
        b.text("n");
        due("NO ahead of FULL", b.it.node(0, 0, 0, 0), NO);
        due("BAD ahead of NO: PARENT", b.it.node(1, 0, 0, 0), BAD);
        due("BAD ahead of NO: KIND", b.it.node(0, 4, 0, 0), BAD);
        due("BAD ahead of NO: MOST", b.it.node(0, 0, 4, 0), BAD);
        due("BAD ahead of NO: LEFT OUT", b.it.node(0, 0, 0, 2), BAD);
        due("once for all", b.it.node(16, -1, -1, -1), BAD);
        b.text("N");
        due("BAD ahead of FULL", b.it.node(0, 0, 0, -1), BAD);
        b.dueTold("each counts once", 6, 1, 1);
    }

    private static void theTextStaysAsNameOfSeveral() {
        Bench b = new Bench();
        b.text("Abc");
        due("first", b.it.node(0, BRANCH, 0, 0), 1);
        due("second", b.it.node(1, VALUE, 0, 0), 2);
        due("bytes", b.it.told(3), 3);
        due("more of it", b.it.type('d'), 4);
        due("third", b.it.node(1, ACT, 0, 0), 3);
        due("the first keeps its NAME", b.it.of(1, 7), 3);
        due("the third has all", b.it.of(3, 7), 4);
        due("the second is found", b.finds("A:ABC"), 2);
        due("the third is found", b.finds("A:ABCD"), 3);
        due("SHORT forms are alike: the first", b.finds("A:A"), 2);
    }

    private static void valueIs0To9999AtFirst() {
        Bench b = eachKind();
        for (int n = 0; n <= 4; n++) {
            due("LOW of " + n, b.it.of(n, 4), 0);
            due("HIGH of " + n, b.it.of(n, 5), n == 2 ? 9999 : 0);
        }
        b.dueNumbers("LOW at first, whatever MOST", 2, 0, 0, 0);
        b.dueAlone("V 9999;V 10000;V?", 3, -222);
        b.dueAlone("V 0;V -1;V?", 3, -222);
        b.dueAnswers("from 0 to 9999", 9999, 0);
    }

    private static void lowAndHighAreWithin9999() {
        int[][] right = {{-9999, 9999}, {-9999, -9999}, {9999, 9999}, {0, 0}, {-1, 0}, {0, 9999}, {-9999, 0}};
        for (int[] r : right) {
            Bench b = eachKind();
            due("range", b.it.range(2, r[0], r[1]), 0);
            due("LOW", b.it.of(2, 4), r[0]);
            due("HIGH", b.it.of(2, 5), r[1]);
            b.dueNumbers("LOW", 2, r[0], r[0], r[0]);
        }
        int[][] wrong = {
            {-10000, 0}, {0, 10000}, {-10000, -10000}, {10000, 10000}, {-10000, 10000}, {LEAST, 0}, {0, GREATEST}, {LEAST, GREATEST},
            {LEAST, LEAST}, {GREATEST, GREATEST}
        };
        for (int[] w : wrong) {
            String call = "range of " + w[0] + " to " + w[1];
            Bench.dueRefused(call, TreeEdgesTest::eachKind, BAD, x -> x.range(2, w[0], w[1]));
        }
    }

    private static void highIsNotBelowLow() {
        int[] lows = {-9998, -1, 0, 1, 9999};
        for (int a : lows) {
            due("HIGH as LOW", eachKind().it.range(2, a, a), 0);
            Bench.dueRefused("HIGH 1 below " + a, TreeEdgesTest::eachKind, BAD, x -> x.range(2, a, a - 1));
        }
        Bench.dueRefused("HIGH far below", TreeEdgesTest::eachKind, BAD, x -> x.range(2, 9999, -9999));
    }

    private static void rangeMakesNumbersLow() {
        Bench b = eachKind();
        b.sends("V 5;V2 6");
        b.dueNumbers("set", 2, 5, 6, 0);
        due("range", b.it.range(2, 4, 7), 0);
        b.dueNumbers("LOW, though they were in it", 2, 4, 4, 4);
        b.sends("V 5;V2 6");
        int states = b.it.told(4);
        due("the same range again", b.it.range(2, 4, 7), 4);
        b.dueNumbers("LOW again", 2, 4, 4, 4);
        due("it leaves a STATE", b.it.told(4), Math.min(states + 1, 5));
        b.it.back();
        b.dueNumbers("taken back", 2, 5, 6, 4);
    }

    private static void rangeIsOfThatValueAlone() {
        Bench b = new Bench();
        b.node(0, "U", VALUE, 3, 0);
        b.node(0, "V", VALUE, 3, 0);
        b.node(0, "W", VALUE, 3, 0);
        b.sends("U 1;U2 2;U3 3;V 4;V2 5;V3 6;W 7;W2 8;W3 9");
        b.it.range(2, -50, -40);
        b.dueNumbers("the one ahead stays", 1, 1, 2, 3);
        b.dueNumbers("LOW", 2, -50, -50, -50);
        b.dueNumbers("the one behind stays", 3, 7, 8, 9);
        due("LOW of the one ahead", b.it.of(1, 4), 0);
        due("HIGH of the one behind", b.it.of(3, 5), 9999);
        b.node(0, "X", VALUE, 3, 0);
        b.dueNumbers("a new NODE leaves the others", 3, 7, 8, 9);
        b.sends("*RST");
        b.dueNumbers("RST, each its LOW", 1, 0, 0, 0);
        b.dueNumbers("RST, each its LOW", 2, -50, -50, -50);
        b.dueNumbers("RST, each its LOW", 3, 0, 0, 0);
    }

    private static void rangeIsOfAValueAlone() {
        int[] others = {0, 1, 3, 4, 5, 15, 16, -1, NONE, LEAST, GREATEST};
        for (int n : others) {
            Bench.dueRefused("range of NODE " + n, TreeEdgesTest::eachKind, BAD, x -> x.range(n, 0, 1));
            Bench.dueRefused("value of NODE " + n, TreeEdgesTest::eachKind, BAD, x -> x.value(n, 1));
        }
    }

    private static void rangeAnswersLowAsItWas() {
        Bench b = eachKind();
        due("at first", b.it.range(2, -9999, -9998), 0);
        due("then", b.it.range(2, 9998, 9999), -9999);
        b.sends("V 9999");
        due("LOW, not the number", b.it.range(2, 3, 3), 9998);
        due("refused", b.it.range(2, 4, 3), BAD);
        due("refused ones change nothing", b.it.range(2, 0, 0), 3);
    }

    private static void ofEachWhat() {
        int[] wrong = {-1, 9, LEAST, GREATEST};
        for (int what : wrong) {
            for (int n = 0; n <= 4; n++) {
                int node = n;
                Bench.dueRefused("of(" + n + ", " + what + ")", TreeEdgesTest::eachKind, BAD, x -> x.of(node, what));
            }
        }
        Bench b = eachKind();
        b.sends("A;A;S;V 3;V?");
        int[][] want = {
            {NONE, 0, 0, 0, 0, 0, 0, 0, 0}, {0, 0, 1, 0, 0, 0, 1, 1, 0}, {0, 1, 2, 1, 0, 9999, 1, 1, 0}, {0, 2, 3, 0, 0, 0, 1, 1, 2},
            {0, 3, 0, 0, 0, 0, 1, 1, 1}
        };
        for (int n = 0; n < want.length; n++) {
            for (int what = 0; what <= 8; what++) {
                due("of(" + n + ", " + what + ")", b.it.of(n, what), want[n][what]);
            }
        }
    }

    private static void ofEachNode() {
        int[] wrong = {-1, 5, 15, 16, 17, NONE, LEAST, GREATEST};
        for (int n : wrong) {
            for (int what = 0; what <= 8; what++) {
                int reading = what;
                Bench.dueRefused("of(" + n + ", " + what + ")", TreeEdgesTest::eachKind, BAD, x -> x.of(n, reading));
            }
        }
        Bench.dueRefused("of(16, 8) when full", TreeEdgesTest::sixteen, BAD, x -> x.of(16, 8));
        due("of(15, 2) when full", sixteen().it.of(15, 2), 3);
    }

    private static void valueOfEachSuffix() {
        for (int m = 0; m <= 3; m++) {
            Bench b = new Bench();
            b.node(0, "V", VALUE, m, 0);
            b.it.range(1, -7, 7);
            b.dueNumbers("three numbers with MOST " + m, 1, -7, -7, -7);
        }
        int[] wrong = {0, 4, -1, LEAST, GREATEST};
        for (int s : wrong) {
            Bench.dueRefused("value(2, " + s + ")", TreeEdgesTest::eachKind, BAD, x -> x.value(2, s));
        }
        Bench.dueRefused("value(2, LEAST + 1)", TreeEdgesTest::eachKind, BAD, x -> x.value(2, LEAST + 1));
        Bench b = sixteen();
        b.sends("N3 8");
        due("the first VALUE by name", b.it.value(1, 3), 8);
        due("the last VALUE", b.it.value(13, 3), 0);
    }
}
