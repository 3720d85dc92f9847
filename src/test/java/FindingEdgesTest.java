/** The edges that the document names of WORDS, FITS, FINDING, SUFFIX (its terms) and of promise 9. */
public final class FindingEdgesTest {
    private static final int NONE = BenchOrders.NONE;
    private static final int BRANCH = 0, VALUE = 1, ACT = 2, SLOW = 3;

    private FindingEdgesTest() {
    }

    public static void main(String[] args) {
        aWordHas1To8Letters();
        aWordsFigureIs1To9();
        aFigureFits1ToMost();
        mostZeroTakesNoFigure();
        lettersAreTheShortOrTheLongForm();
        caseIsWhatever();
        aShortFormMayBeAllOfIt();
        rowsOf1To4Words();
        nothingElseInARow();
        anEmptyBranchIsNotFound();
        rootIsNotFound();
        noneLeftGoesByThoseLeftOut();
        leftOutOnesRise();
        aFailedLeftOutOneIsPassed();
        fittingOnesRise();
        fittingOnesComeAheadOfLeftOut();
        aFailedWayIsLeft();
        oneNodeMayFitOrBeLeftOut();
        nothingIsBelowAValueOrAnAct();
        suffixOfTheLastWord();
        suffixBehindTheLastWord();
        suffixesKeepTheirNumbers();
        theDeepestTree();
        theWidestTree();
        wordsOfAnEarlierRowAreGone();
        findsChangesNothing();
        Bench.end();
    }

    private static void due(String what, long got, long want) {
        Bench.due(what, got, want);
    }

    private static void aWordHas1To8Letters() {
        Bench b = new Bench();
        b.node(0, "Abcdefgh", VALUE, 3, 0);
        b.node(0, "I", VALUE, 0, 0);
        due("8 letters", b.finds("abcdefgh"), 1);
        due("8 letters and a figure", b.finds("abcdefgh3"), 1);
        due("9 letters", b.finds("abcdefghi"), NONE);
        due("9 letters, the first left", b.finds("habcdefgh"), NONE);
        due("1 letter", b.finds("i"), 2);
        due("none", b.finds("1"), NONE);
        b.dueAlone("abcdefgh 5", 1);
        b.dueAlone("abcdefghi 5", 0, -102);
        b.dueAlone("abcdefgX 5", 0, -113);
        b.dueAlone("1 5", 0, -102);
    }

    private static void aWordsFigureIs1To9() {
        Bench b = new Bench();
        b.node(0, "V", VALUE, 3, 0);
        for (int figure = 0; figure <= 9; figure++) {
            boolean fits = figure >= 1 && figure <= 3;
            due("V" + figure, b.finds("V" + figure), fits ? 1 : NONE);
            b.sends("*CLS");
            // 0 can't stand there; 4 to 9 can, but fit nothing.
            b.sends("V" + figure + " 7");
            due("FAULT of V" + figure, b.it.faults(0), fits ? NONE : figure == 0 ? -102 : -113);
        }
        b.sends("*CLS");
        b.dueAlone("V11 7", 0, -102);
        b.dueAlone("V10 7", 0, -102);
        b.dueAlone("V1a 7", 0, -102);
    }

    private static void aFigureFits1ToMost() {
        for (int most = 0; most <= 3; most++) {
            Bench b = new Bench();
            b.node(0, "Vb", VALUE, most, 0);
            due("no figure", b.finds("V"), 1);
            due("no figure, LONG", b.finds("vB"), 1);
            for (int figure = 1; figure <= 9; figure++) {
                due("figure " + figure + " of " + most, b.finds("V" + figure), figure <= most ? 1 : NONE);
                due("LONG " + figure + " of " + most, b.finds("vb" + figure), figure <= most ? 1 : NONE);
            }
        }
    }

    private static void mostZeroTakesNoFigure() {
        Bench b = new Bench();
        b.node(0, "B", BRANCH, 0, 0);
        b.node(1, "V", VALUE, 0, 0);
        due("none", b.finds("B:V"), 2);
        due("1 of the BRANCH", b.finds("B1:V"), NONE);
        due("1 of the VALUE", b.finds("B:V1"), NONE);
        b.dueAlone("B:V 6", 1);
        b.dueNumbers("none told is 1", 2, 6, 0, 0);
        b.dueAlone("B:V1 7", 0, -113);
        b.dueNumbers("1 is not taken", 2, 6, 0, 0);
    }

    private static void lettersAreTheShortOrTheLongForm() {
        String name = "ABCDefgh";
        Bench b = new Bench();
        b.node(0, name, ACT, 0, 0);
        for (int letters = 1; letters <= 8; letters++) {
            due(letters + " letters", b.finds(name.substring(0, letters)), letters == 4 || letters == 8 ? 1 : NONE);
        }
        for (int i = 0; i < 8; i++) {
            String other = name.substring(0, i) + "X" + name.substring(i + 1);
            due("another letter: " + other, b.finds(other), NONE);
            due("another letter, SHORT", b.finds(other.substring(0, 4)), i < 4 ? NONE : 1);
        }
        due("the end of the LONG form", b.finds("EFGH"), NONE);
        Bench c = new Bench();
        c.node(0, "Abc", ACT, 0, 0);
        due("SHORT and more", c.finds("AB"), NONE);
        due("LONG and more", c.finds("ABCD"), NONE);
        due("doubled", c.finds("AA"), NONE);
    }

    private static void caseIsWhatever() {
        Bench b = new Bench();
        b.node(0, "AZaz", ACT, 0, 0);
        String[] right = {"AZ", "az", "aZ", "Az", "AZAZ", "azaz", "AZaz", "azAZ", "aZaZ"};
        for (String word : right) {
            due(word, b.finds(word), 1);
        }
        // The signs beside the letters, which differ from letters by the bit of case alone.
        String[] wrong = {"@Z", "A[", "`Z", "A{", "A:", "AZ@z", "AZa["};
        for (String word : wrong) {
            due(word, b.finds(word), NONE);
        }
    }

    private static void aShortFormMayBeAllOfIt() {
        Bench b = new Bench();
        b.node(0, "ABCDEFGH", ACT, 0, 0);
        b.node(0, "X", ACT, 0, 0);
        due("8 capitals", b.finds("abcdefgh"), 1);
        due("7 of 8", b.finds("abcdefg"), NONE);
        due("1 capital", b.finds("x"), 2);
    }

    private static void rowsOf1To4Words() {
        Bench b = new Bench();
        b.node(0, "A", ACT, 0, 0);
        for (int n = 0; n <= 4; n++) {
            b.node(n == 0 ? 0 : n + 1, "B", BRANCH, 0, 0);
        }
        for (int n = 2; n <= 6; n++) {
            b.node(n, "A", ACT, 0, 0);
        }
        due("no WORD", b.finds(""), NONE);
        due("1 WORD", b.finds("A"), 1);
        due("2 WORDS", b.finds("B:A"), 7);
        due("3 WORDS", b.finds("B:B:A"), 8);
        due("4 WORDS", b.finds("B:B:B:A"), 9);
        due("5 WORDS", b.finds("B:B:B:B:A"), NONE);
        due("4 WORDS and :", b.finds("B:B:B:A:"), NONE);
        due("100 bytes", b.finds("B:".repeat(49) + "BA"), NONE);
        due("4 long WORDS", b.finds("ABCDEFGH1:ABCDEFGH1:ABCDEFGH1:ABCDEFGH1"), NONE);
    }

    private static void nothingElseInARow() {
        Bench b = new Bench();
        b.node(0, "B", BRANCH, 3, 0);
        b.node(1, "A", ACT, 3, 0);
        due("the row", b.finds("B:A"), 2);
        for (int c = 0; c <= 127; c++) {
            Bench d = new Bench();
            d.node(0, "B", BRANCH, 3, 0);
            d.node(1, "A", ACT, 3, 0);
            char sign = (char) c;
            boolean figure = c >= '1' && c <= '3';
            due("byte " + c + " ahead", d.finds(sign + "B:A"), NONE);
            due("byte " + c + " behind", d.finds("B:A" + sign), figure ? 2 : NONE);
            due("byte " + c + " ahead of :", d.finds("B" + sign + ":A"), figure ? 2 : NONE);
            due("byte " + c + " behind :", d.finds("B:" + sign + "A"), NONE);
            due("byte " + c + " for :", d.finds("B" + sign + "A"), c == ':' ? 2 : NONE);
        }
    }

    private static void anEmptyBranchIsNotFound() {
        Bench b = new Bench();
        b.node(0, "B", BRANCH, 0, 0);
        due("without children", b.finds("B"), NONE);
        b.node(1, "A", ACT, 0, 0);
        due("with a child that may not be LEFT OUT", b.finds("B"), NONE);
        b.node(1, "C", BRANCH, 0, 1);
        due("with an empty BRANCH that may", b.finds("B"), NONE);
        b.dueAlone("B", 0, -113);
        b.dueAlone("B?", 0, -113);
        b.node(3, "D", ACT, 0, 1);
        due("with one that may, below one that may", b.finds("B"), 4);
        b.dueAlone("B", 1);
    }

    private static void rootIsNotFound() {
        Bench b = new Bench();
        b.node(0, "A", ACT, 0, 1);
        due("an empty row", b.finds(""), NONE);
        b.dueAlone("", 0, -102);
        b.dueAlone(":", 0, -102);
        due("no ACT was done", b.it.of(1, 8), 0);
    }

    private static void noneLeftGoesByThoseLeftOut() {
        int[] kinds = {VALUE, ACT, SLOW};
        for (int kind : kinds) {
            Bench b = new Bench();
            b.node(0, "B", BRANCH, 3, 0);
            b.node(1, "C", BRANCH, 3, 1);
            b.node(2, "D", kind, 3, 1);
            due("two LEFT OUT behind", b.finds("B"), 3);
            due("one LEFT OUT behind", b.finds("B:C"), 3);
            due("one LEFT OUT between", b.finds("B:D"), 3);
            due("none LEFT OUT", b.finds("B:C:D"), 3);
            due("not told ones are not there twice", b.finds("B:C:C"), NONE);
        }
        Bench b = new Bench();
        b.node(0, "B", BRANCH, 0, 1);
        b.node(1, "D", ACT, 0, 1);
        due("itself LEFT OUT, told", b.finds("B"), 2);
        due("its child told", b.finds("D"), 2);
    }

    private static void leftOutOnesRise() {
        Bench b = new Bench();
        b.node(0, "B", BRANCH, 0, 0);
        b.node(1, "X", ACT, 0, 0);
        b.node(1, "Y", ACT, 0, 1);
        b.node(1, "Z", ACT, 0, 1);
        due("the first that may be LEFT OUT", b.finds("B"), 3);
        Bench c = new Bench();
        c.node(0, "L", BRANCH, 0, 1);
        c.node(0, "M", BRANCH, 0, 1);
        c.node(2, "X", ACT, 0, 0);
        c.node(1, "X", ACT, 0, 0);
        due("the first LEFT OUT, though its child is later", c.finds("X"), 4);
        due("the second is told", c.finds("M:X"), 3);
    }

    private static void aFailedLeftOutOneIsPassed() {
        Bench b = new Bench();
        b.node(0, "B", BRANCH, 0, 0);
        b.node(1, "C", BRANCH, 0, 1);
        b.node(1, "D", ACT, 0, 1);
        due("none left: an empty BRANCH is passed", b.finds("B"), 3);
        Bench c = new Bench();
        c.node(0, "L", BRANCH, 0, 1);
        c.node(1, "Y", ACT, 0, 0);
        c.node(0, "M", BRANCH, 0, 1);
        c.node(3, "X", ACT, 0, 0);
        due("some left: a BRANCH without it is passed", c.finds("X"), 4);
        due("the first has the other", c.finds("Y"), 2);
        due("none has it", c.finds("Z"), NONE);
    }

    private static void fittingOnesRise() {
        Bench b = new Bench();
        b.node(0, "X", ACT, 0, 0);
        b.node(0, "X", VALUE, 3, 0);
        b.node(0, "Xy", SLOW, 0, 0);
        due("the first of like names", b.finds("X"), 1);
        due("the first that takes the figure", b.finds("X2"), 2);
        due("the LONG form of the third", b.finds("xy"), 3);
        Bench c = new Bench();
        c.node(0, "B", BRANCH, 0, 0);
        c.node(0, "B", BRANCH, 0, 0);
        c.node(2, "X", ACT, 0, 0);
        c.node(1, "X", ACT, 0, 0);
        due("by the first BRANCH, though its child is later", c.finds("B:X"), 4);
    }

    private static void fittingOnesComeAheadOfLeftOut() {
        Bench b = new Bench();
        b.node(0, "L", BRANCH, 0, 1);
        b.node(1, "X", ACT, 0, 0);
        due("LEFT OUT alone", b.finds("X"), 2);
        b.node(0, "X", ACT, 0, 0);
        due("what FITS, though it is later", b.finds("X"), 3);
        Bench c = new Bench();
        c.node(0, "L", BRANCH, 0, 1);
        c.node(1, "L", ACT, 0, 1);
        c.node(1, "M", ACT, 0, 1);
        due("FITS, then LEFT OUT behind", c.finds("L"), 2);
        due("LEFT OUT, then FITS", c.finds("M"), 3);
        due("FITS twice", c.finds("L:L"), 2);
    }

    private static void aFailedWayIsLeft() {
        Bench b = new Bench();
        b.node(0, "A", BRANCH, 0, 0);
        b.node(1, "B", BRANCH, 0, 0);
        b.node(2, "C", BRANCH, 0, 0);
        b.node(0, "A", BRANCH, 0, 0);
        b.node(4, "B", BRANCH, 0, 0);
        b.node(5, "C", ACT, 0, 0);
        due("three WORDS deep", b.finds("A:B:C"), 6);
        Bench c = new Bench();
        c.node(0, "A", BRANCH, 0, 0);
        c.node(0, "L", BRANCH, 0, 1);
        c.node(2, "A", BRANCH, 0, 0);
        c.node(3, "B", ACT, 0, 0);
        due("by LEFT OUT once FITS failed", c.finds("A:B"), 4);
        c.node(1, "M", BRANCH, 0, 1);
        c.node(5, "B", ACT, 0, 0);
        due("FITS, then LEFT OUT within it", c.finds("A:B"), 6);
        Bench d = new Bench();
        d.node(0, "A", VALUE, 0, 0);
        d.node(0, "A", BRANCH, 0, 0);
        d.node(2, "B", ACT, 0, 0);
        due("the VALUE has nothing below", d.finds("A:B"), 3);
        due("the VALUE itself", d.finds("A"), 1);
    }

    private static void oneNodeMayFitOrBeLeftOut() {
        Bench b = new Bench();
        b.node(0, "A", BRANCH, 0, 1);
        b.node(1, "A", BRANCH, 0, 1);
        b.node(2, "A", ACT, 0, 0);
        due("one WORD", b.finds("A"), 3);
        due("two WORDS", b.finds("A:A"), 3);
        due("three WORDS", b.finds("A:A:A"), 3);
        due("four WORDS", b.finds("A:A:A:A"), NONE);
    }

    private static void nothingIsBelowAValueOrAnAct() {
        int[] kinds = {VALUE, ACT, SLOW};
        for (int kind : kinds) {
            Bench b = new Bench();
            b.node(0, "X", kind, 0, 1);
            b.node(0, "Y", ACT, 0, 1);
            due("itself", b.finds("X"), 1);
            due("a WORD more", b.finds("X:Y"), NONE);
            due("itself twice", b.finds("X:X"), NONE);
            due("LEFT OUT ahead", b.finds("Z"), NONE);
        }
    }

    private static void suffixOfTheLastWord() {
        for (int figure = 1; figure <= 3; figure++) {
            Bench b = new Bench();
            b.node(0, "B", BRANCH, 3, 0);
            b.node(1, "C", BRANCH, 3, 1);
            b.node(2, "V", VALUE, 3, 1);
            b.dueAlone("B2:C3:V" + figure + " 5", 1);
            due("the last WORD's", b.it.value(3, figure), 5);
            b.dueAlone("B2:V" + figure + " 6", 1);
            due("C LEFT OUT ahead of it", b.it.value(3, figure), 6);
            b.takeAnswers();
            b.dueAlone("B3:V" + figure + "?", 1);
            b.dueAnswers("the QUESTION's", 6);
        }
        Bench c = new Bench();
        c.node(0, "B", BRANCH, 3, 0);
        c.node(1, "V", VALUE, 3, 0);
        c.dueAlone("B3:V 5", 1);
        c.dueNumbers("no figure is 1", 2, 5, 0, 0);
    }

    private static void suffixBehindTheLastWord() {
        for (int figure = 1; figure <= 3; figure++) {
            Bench b = new Bench();
            b.node(0, "B", BRANCH, 3, 0);
            b.node(1, "C", BRANCH, 3, 1);
            b.node(2, "V", VALUE, 3, 1);
            b.dueAlone("B" + figure + " 5", 1);
            b.dueNumbers("two LEFT OUT behind", 3, 5, 0, 0);
            b.dueAlone("B:C" + figure + " 6", 1);
            b.dueNumbers("one LEFT OUT behind", 3, 6, 0, 0);
            b.dueAlone("B:V2 7;:B" + figure + "?", 2);
            b.dueAnswers("the QUESTION's", 6);
        }
        Bench c = new Bench();
        c.node(0, "B", BRANCH, 3, 1);
        c.node(1, "B", VALUE, 3, 1);
        c.dueAlone("B3 5", 1);
        c.dueNumbers("like names: FITS the BRANCH first", 2, 5, 0, 0);
        c.dueAlone("B:B3 6", 1);
        c.dueNumbers("both told", 2, 5, 0, 6);
    }

    private static void suffixesKeepTheirNumbers() {
        Bench b = new Bench();
        b.node(0, "V", VALUE, 3, 0);
        b.node(0, "W", VALUE, 3, 0);
        b.dueAlone("V 1;V2 2;V3 3;W 4;W2 5;W3 6", 6);
        b.dueNumbers("V", 1, 1, 2, 3);
        b.dueNumbers("W", 2, 4, 5, 6);
        b.dueAlone("V1 7;W1 8", 2);
        b.dueNumbers("1 told is 1", 1, 7, 2, 3);
        b.dueNumbers("1 told is 1", 2, 8, 5, 6);
    }

    private static void theDeepestTree() {
        Bench b = new Bench();
        for (int n = 0; n < 14; n++) {
            due("BRANCH", b.node(n, "L", BRANCH, 0, 1), n + 1);
        }
        due("the 16th", b.node(14, "V", VALUE, 3, 1), 15);
        due("1 WORD", b.finds("V"), 15);
        due("4 WORDS", b.finds("L:L:L:V"), 15);
        due("all LEFT OUT behind", b.finds("L"), 15);
        b.dueAlone("L:L:L:V2 5;L:L:V3 6", 2);
        b.dueNumbers("6 WORDS with the BRANCH", 15, 0, 5, 6);
        Bench c = new Bench();
        for (int n = 0; n < 15; n++) {
            c.node(n, "L", BRANCH, 0, 1);
        }
        due("nothing but BRANCHES", c.finds("L:L:L:L"), NONE);
        c.dueAlone("L", 0, -113);
    }

    private static void theWidestTree() {
        Bench b = new Bench();
        for (int n = 1; n <= 15; n++) {
            b.node(0, "X" + (char) ('a' + n), ACT, 0, 0);
        }
        for (int n = 1; n <= 15; n++) {
            due("child " + n, b.finds("x" + (char) ('a' + n)), n);
        }
        due("the SHORT form of all", b.finds("X"), 1);
        due("a 16th", b.finds("X" + (char) ('a' + 16)), NONE);
    }

    private static void wordsOfAnEarlierRowAreGone() {
        Bench b = new Bench();
        b.node(0, "B", BRANCH, 0, 0);
        b.node(1, "C", BRANCH, 0, 0);
        b.node(2, "A", ACT, 0, 0);
        due("three WORDS", b.finds("B:C:A"), 3);
        due("two of them", b.finds("B:C"), NONE);
        due("one of them", b.finds("B"), NONE);
        b.dueAlone("B:C:A;:B:C", 1, -113);
        b.dueAlone("B:C:A;:B", 1, -113);
        b.sends("B:C:A");
        b.dueAlone("B:C", 0, -113);
    }

    private static void findsChangesNothing() {
        Bench b = new Bench();
        b.node(0, "V", VALUE, 3, 0);
        b.sends("V2 5");
        b.text("V2");
        long before = b.it.digest();
        due("found", b.it.finds(), 1);
        due("THE TEXT stays, no STATE, nothing counts", b.it.digest(), before);
        b.text("Q2");
        before = b.it.digest();
        due("not found", b.it.finds(), NONE);
        due("NONE is not refused", b.it.digest(), before);
    }
}
