import java.util.Arrays;

/** The boundary cases of promises 36 to 47, which ask for what fits, what it costs and how full rows are. */
final class FitEdgeTests {
    public static void main(String[] args) {
        rowsOrNoWords();
        noRowIsWiderThanInner();
        forGapAlsoIfFillIsOn();
        notHigherThanHigh();
        highAtItsEnds();
        bestSizeAtItsEnds();
        bestSizeIsGreaterThanOnesThatDoNotFit();
        bestGapAtItsEnds();
        bestGapOfOtherCaps();
        leastInnerAtItsLeastEnd();
        leastInnerAtItsGreatestEnd();
        leastInnerForNumbersOfRows();
        leastInnerIsTheLeast();
        leastInnerWhateverBreakIs();
        heightWithLeadAtItsEnds();
        costOfARowAtInner();
        costOfTheGreatestBoard();
        costIsByTheWidthsForGap();
        leastCostWithoutAWay();
        fillGapOfRowsThatAreThere();
        swapThatHelpsNothing();
        swapOfSeveral();
        swapOfTheLastTwoWords();
        swapsWithoutRowsDoNotCount();
        swapByLeastCost();
        fullAtItsEnds();
        meanGapAtItsEnds();
        Check.finish("FitEdgeTests");
    }

    private static BoardLetters with(BoardLetters x, int... numbers) {
        for (int i = 0; i < numbers.length; i += 2) {
            x.setNumber(numbers[i], numbers[i + 1]);
        }
        return x;
    }

    /** Section 2: "if it has rows or no words". */
    private static void rowsOrNoWords() {
        for (int how = 0; how < 2; how++) {
            Check.dueTruth("no words", Given.broken(how).fits(), true);
            Check.dueTruth("twelve rows", with(Given.broken(how, Given.same(12, 9)), Given.LEAD, 0).fits(), true);
            Check.dueTruth("no rows", with(Given.broken(how, Given.same(13, 9)), Given.HIGH, 9999).fits(), false);
        }
    }

    /** Section 2: "no row is wider than INNER", be it the first or the last one. */
    private static void noRowIsWiderThanInner() {
        for (int how = 0; how < 2; how++) {
            Check.dueTruth("as wide as INNER", Given.broken(how, 10, 10).fits(), true);
            Check.dueTruth("wider by 1", with(Given.broken(how, 10, 10), Given.INNER, 99).fits(), false);
            Check.dueTruth("the first one is wider", Given.broken(how, 11, 9, 9).fits(), false);
            Check.dueTruth("the second one is wider", Given.broken(how, 9, 11, 9).fits(), false);
            Check.dueTruth("the last one is wider", Given.broken(how, 9, 9, 11).fits(), false);
        }
    }

    /** Section 2: "(for GAP, also if FILL is on)". */
    private static void forGapAlsoIfFillIsOn() {
        for (boolean on : new boolean[] {false, true}) {
            BoardLetters x = Given.plain(10);
            x.setFill(on);
            Check.dueTruth("100 for GAP", x.fits(), true);
            x.setNumber(Given.GAP, 3);
            Check.dueTruth("109 for GAP", x.fits(), false);
            x.setNumber(Given.INNER, 109);
            Check.dueTruth("109 on 109", x.fits(), true);
        }
    }

    /** Section 2: "all rows with what is between them are not higher than HIGH". */
    private static void notHigherThanHigh() {
        int[] rows = {1, 2, 3, 12};
        int[] heights = {6, 14, 22, 94};
        for (int i = 0; i < rows.length; i++) {
            BoardLetters x = Given.plain(Given.same(rows[i], 9));
            Check.due("height of " + rows[i] + " rows", x.height(), heights[i]);
            Check.dueTruth("as high as HIGH", with(x, Given.HIGH, heights[i]).fits(), true);
            Check.dueTruth("higher by 1", with(x, Given.HIGH, heights[i] - 1).fits(), false);
            Check.dueTruth("lower by 1", with(x, Given.HIGH, heights[i] + 1).fits(), true);
        }
    }

    /** Section 2: "HIGH (1 to 9999)". */
    private static void highAtItsEnds() {
        Check.dueTruth("a row on HIGH 1", with(Given.plain(1), Given.HIGH, 1).fits(), false);
        Check.dueTruth("no words on HIGH 1", with(Given.plain(), Given.HIGH, 1).fits(), true);
        BoardLetters x = with(Given.plain(Given.same(12, 1)), Given.LEAD, 99, Given.SIZE, 9, Given.HIGH, 9999);
        Check.due("rows of 90", x.value(12), 12);
        Check.due("the greatest height", x.height(), 12 * 54 + 11 * 99);
        Check.dueTruth("on HIGH 9999", x.fits(), true);
    }

    /** Promise 37: "the greatest SIZE, 1 to 9"; "NOT_FOUND if there is none". */
    private static void bestSizeAtItsEnds() {
        // 20 for SIZE 1
        int[] inners = {19, 20, 39, 40, 179, 180, 181, 200, 9999};
        int[] due = {-2, 1, 1, 2, 8, 9, 9, 9, 9};
        for (int i = 0; i < inners.length; i++) {
            Check.due("INNER " + inners[i], with(Given.plain(2), Given.INNER, inners[i]).bestSize(), due[i]);
        }
        int[] highs = {5, 6, 11, 12, 53, 54, 9999};
        int[] dueHigh = {-2, 1, 1, 2, 8, 9, 9};
        for (int i = 0; i < highs.length; i++) {
            Check.due("HIGH " + highs[i], with(Given.plain(1), Given.HIGH, highs[i]).bestSize(), dueHigh[i]);
        }
        Check.due("no words", with(Given.plain(), Given.HIGH, 1, Given.INNER, 10).bestSize(), 9);
        Check.due("no rows by any size", Given.thirteenRows().bestSize(), -2);
        // thirteen rows for SIZE 2 and more
        Check.due("rows by SIZE 1 alone", with(Given.plain(Given.same(25, 3)), Given.HIGH, 9999).bestSize(), -2);
        Check.due("two a row by SIZE 1", with(Given.plain(Given.same(24, 3)), Given.HIGH, 9999).bestSize(), 1);
    }

    /** Promise 37: the greatest one, whatever SIZE is now. */
    private static void bestSizeIsGreaterThanOnesThatDoNotFit() {
        BoardLetters x = Given.plain(2, 2);
        // 50, 100 and, in two rows, 60, 80 and 100 wide; 6, 12 and, in two rows, 38, 50 and 62 high
        int[] highs = {5, 6, 12, 37, 38, 50, 61, 62};
        int[] due = {-2, 1, 2, 2, 3, 4, 4, 5};
        for (int i = 0; i < highs.length; i++) {
            x.setNumber(Given.HIGH, highs[i]);
            for (int size = 1; size <= 9; size += 8) {
                x.setNumber(Given.SIZE, size);
                Check.due("HIGH " + highs[i] + " and SIZE " + size, x.bestSize(), due[i]);
            }
        }
    }

    /** Promise 38: "the greatest GAP, 0 to CAP"; "NOT_FOUND if there is none". */
    private static void bestGapAtItsEnds() {
        // 20 for gap 2, 1 more for each more, 19 for 1; for 0 the distance is -9
        int[] inners = {10, 11, 18, 19, 20, 27, 28, 29, 9999};
        int[] due = {-2, 0, 0, 1, 2, 9, 10, 10, 10};
        for (int i = 0; i < inners.length; i++) {
            BoardLetters x = with(Given.plain(2), Given.INNER, inners[i]);
            Check.due("INNER " + inners[i], x.bestGap(), due[i]);
            Check.due("INNER " + inners[i] + " and GAP 10", with(x, Given.GAP, 10).bestGap(), due[i]);
            Check.due("INNER " + inners[i] + " and GAP 0", with(x, Given.GAP, 0).bestGap(), due[i]);
        }
        Check.due("no words", Given.plain().bestGap(), 10);
        Check.due("one letter that fits", Given.plain(1).bestGap(), 10);
        Check.due("too high for any gap", with(Given.plain(1), Given.HIGH, 5).bestGap(), -2);
        // nine letters are 18 wide for gap 0, so that four of them are in a row
        Check.due("rows by some gaps alone", with(Given.plain(Given.same(13, 9)), Given.HIGH, 9999).bestGap(), 0);
    }

    private static void bestGapOfOtherCaps() {
        for (int cap : new int[] {1, 30}) {
            BoardLetters x = Check.loaded(Given.board(100, 100, 2, cap, 0, 8, 1) + Given.even('a', 10, 1, 1));
            Check.due("no words, CAP " + cap, x.bestGap(), cap);
            Check.say(x, "aa");
            Check.due("two letters, CAP " + cap, x.bestGap(), cap);
            x.setNumber(Given.INNER, 18);
            Check.due("too wide for 1, CAP " + cap, x.bestGap(), 0);
        }
    }

    /** Promise 39: "the least INNER, 10 to 9999", at 10. */
    private static void leastInnerAtItsLeastEnd() {
        int[] wides = {1, 9, 10, 11};
        int[] due = {10, 10, 10, 11};
        for (int i = 0; i < wides.length; i++) {
            BoardLetters x = Check.loaded(Given.board(10, 100, 2, 10, 0, 8, 1) + Given.even('a', wides[i], 1, 1));
            Check.say(x, "a");
            Check.due("WIDE " + wides[i], x.leastInner(1), due[i]);
        }
    }

    /** Promise 39: "10 to 9999" at 9999; "NOT_FOUND if there is none". */
    private static void leastInnerAtItsGreatestEnd() {
        int[] wides = {1, 2, 3};
        int[] due = {9998, 9999, -2};
        for (int i = 0; i < wides.length; i++) {
            BoardLetters x = Check.loaded(Given.board(10, 100, 2, 10, 1, 49, 1) + Given.even('m', 60, 1, 0) + Given.even('i', wides[i], 1, 0));
            // thirteen words of 720 and thirteen spaces of 49 are 9997 wide
            Check.say(x, "mmmmmmmmmmmm ".repeat(13) + "i");
            Check.due("9997 and " + wides[i], x.leastInner(1), due[i]);
            Check.due("in two rows", x.leastInner(2), 720 * 7 + 49 * 6);
        }
    }

    /** Promise 39: "1 to 12"; "at most so many rows". */
    private static void leastInnerForNumbersOfRows() {
        BoardLetters x = Given.plain(Given.same(12, 1));
        int[] due = {230, 110, 70, 50, 50, 30, 30, 30, 30, 30, 30, 10};
        for (int rows = 1; rows <= 12; rows++) {
            Check.due("rows " + rows, x.leastInner(rows), due[rows - 1]);
        }
        for (int wrong : new int[] {0, 13, -1, Given.LEAST_INT, Given.GREATEST_INT}) {
            Check.due("rows " + wrong, x.leastInner(wrong), -1);
            Check.due("rows " + wrong + " without words", new BoardLetters().leastInner(wrong), -1);
        }
        for (int rows = 1; rows <= 12; rows++) {
            Check.due("rows " + rows + " without words", new BoardLetters().leastInner(rows), -2);
        }
        x = Given.plain(Given.same(13, 1));
        Check.due("thirteen words in twelve rows", x.leastInner(12), 30);
    }

    /** Promise 39: "none of them wider than INNER", and 1 less would not do. */
    private static void leastInnerIsTheLeast() {
        int[][] texts = {{1}, {12, 1}, {1, 12}, {3, 1, 4, 1, 5, 9, 2, 6}, Given.same(30, 3), {5, 5, 12, 1, 1, 12}};
        for (int[] text : texts) {
            for (int rows = 1; rows <= 12; rows++) {
                BoardLetters x = Given.plain(text);
                int least = x.leastInner(rows);
                x.setNumber(Given.INNER, least);
                Check.dueTruth("so many rows on " + least, x.value(12) > 0 && x.value(12) <= rows, true);
                Check.dueTruth("wide enough on " + least, x.row(x.widest(true), 4) <= least, true);
                if (least > 10) {
                    x.setNumber(Given.INNER, least - 1);
                    boolean good = x.value(12) > 0 && x.value(12) <= rows && x.row(x.widest(true), 4) <= least - 1;
                    Check.dueTruth("1 less than " + least, good, false);
                }
            }
        }
    }

    /** Promise 39: "(whatever BREAK is)". */
    private static void leastInnerWhateverBreakIs() {
        for (int how = 0; how < 2; how++) {
            BoardLetters x = with(Given.broken(how, 1, 2, 3), Given.INNER, 9999);
            Check.due("one row", x.leastInner(1), 80);
            Check.due("two rows", x.leastInner(2), 40);
            Check.due("three rows", x.leastInner(3), 30);
            x.setFill(true);
            Check.due("also if FILL is on", x.leastInner(2), 40);
        }
    }

    /** Promise 40: "0 without rows"; LEAD is between rows alone. */
    private static void heightWithLeadAtItsEnds() {
        for (int lead : new int[] {0, 1, 99}) {
            for (int rows : new int[] {1, 2, 12}) {
                BoardLetters x = with(Given.plain(Given.same(rows, 9)), Given.LEAD, lead);
                Check.due(rows + " rows with LEAD " + lead, x.height(), 6 * rows + lead * (rows - 1));
                x.setNumber(Given.INNER, 9999);
                x.setNumber(Given.WORD, 99);
                Check.due("one row with LEAD " + lead, x.height(), 6);
            }
        }
        Check.due("no words", with(Given.plain(), Given.LEAD, 99).height(), 0);
        Check.due("no rows", with(Given.thirteenRows(), Given.LEAD, 99).height(), 0);
    }

    /** Section 2: "the squares of what the row lacks to INNER (0 for a row that is wider)". */
    private static void costOfARowAtInner() {
        int[] inners = {108, 109, 110, 111, 112, 119};
        int[] due = {0, 0, 0, 1, 4, 81};
        for (int i = 0; i < inners.length; i++) {
            for (int how = 0; how < 2; how++) {
                BoardLetters x = with(Given.broken(how, 11, 11), Given.INNER, inners[i]);
                Check.due("INNER " + inners[i], x.cost(), due[i]);
                Check.due("the least on INNER " + inners[i], x.leastCost(), due[i]);
            }
        }
        Check.due("one row alone", with(Given.plain(1), Given.INNER, 9999).cost(), 0);
    }

    /** Section 2: eleven rows that lack as much as can be. */
    private static void costOfTheGreatestBoard() {
        StringBuilder text = new StringBuilder();
        for (int n = 0; n < 6; n++) {
            text.append("i mmmmmmmmmmmm ");
        }
        for (int how = 0; how < 2; how++) {
            BoardLetters x = Check.loaded(Given.board(9999, 9999, 99, 30, 30, 99, 9) + Given.even('i', 1, 0, 0) + Given.even('m', 60, 0, 0));
            x.setBreak(how);
            Check.say(x, text.toString());
            Check.due("rows", x.value(12), 12);
            Check.due("cost", x.cost(), 6 * 9990 * 9990 + 5 * 549 * 549);
            Check.due("least cost", x.leastCost(), 6 * 9990 * 9990 + 5 * 549 * 549);
        }
    }

    /** Promise 41: "by the widths for GAP also if FILL is on". */
    private static void costIsByTheWidthsForGap() {
        BoardLetters x = Given.filled(4, 4, 5, 9);
        Check.due("filled", x.row(0, 6), 0);
        Check.due("10 * 10 and 50 * 50", x.cost(), 100 + 2500);
        Check.due("the least one", x.leastCost(), 100 + 2500);
    }

    /** Promise 42: "at most 12 rows; NOT_FOUND if there is no way, or there are no words". */
    private static void leastCostWithoutAWay() {
        for (int how = 0; how < 2; how++) {
            Check.due("no words", Given.broken(how).leastCost(), -2);
            Check.due("twelve rows", Given.broken(how, Given.same(12, 9)).leastCost(), 1100);
            Check.due("thirteen rows", Given.broken(how, Given.same(13, 9)).leastCost(), -2);
            Check.due("thirty words in twelve rows", Given.broken(how, Given.same(30, 2)).leastCost(), 9 * 400);
            Check.due("thirty words in ten rows", with(Given.broken(how, Given.same(30, 2)), Given.INNER, 80).leastCost(), 0);
        }
    }

    /** Promise 43 names a row, which is there or not. */
    private static void fillGapOfRowsThatAreThere() {
        BoardLetters x = Given.plain(Given.same(12, 9));
        Check.due("row 0", x.fillGap(0), 3);
        Check.due("row 11", x.fillGap(11), 3);
        Check.due("row 12", x.fillGap(12), -1);
        Check.due("row 0 of none", Given.plain().fillGap(0), -1);
    }

    /** Promise 44: "if it would be less than now"; "NOT_FOUND if there is none". */
    private static void swapThatHelpsNothing() {
        for (int how = 0; how < 2; how++) {
            Check.due("no words", Given.broken(how).bestSwap(), -2);
            Check.due("one word", Given.broken(how, 9).bestSwap(), -2);
            Check.due("one row", Given.broken(how, 2, 3, 1).bestSwap(), -2);
            Check.due("all alike", Given.broken(how, 9, 9, 9).bestSwap(), -2);
            Check.due("the same cost", Given.broken(how, 9, 8, 9).bestSwap(), 102);
            Check.due("more cost", Given.broken(how, 9, 9, 8).bestSwap(), -2);
            Check.due("nothing but wider rows", Given.broken(how, 11, 12, 12).bestSwap(), -2);
        }
        // 90 or 91 ahead: 1 less in cost is less
        BoardLetters x = Check.loaded(Given.board(100, 100, 2, 10, 3, 20, 1) + Given.even('a', 41, 0, 0) + Given.even('b', 40, 0, 0));
        Check.say(x, "b a");
        x.setNumber(Given.INNER, 41);
        Check.due("cost of 1", x.cost(), 1);
        Check.due("cost of 0", x.bestSwap(), 1);
        x.swap(0, 1);
        Check.due("cost of 0 now", x.cost(), 0);
        Check.due("none less than 0", x.bestSwap(), -2);
    }

    /** Promise 44: "of several the smallest of these numbers". */
    private static void swapOfSeveral() {
        for (int how = 0; how < 2; how++) {
            // 80 costs nothing where it is last
            Check.due("the only one of 80", Given.broken(how, 8, 9, 9).bestSwap(), 2);
            Check.due("either one of 80", Given.broken(how, 8, 8, 9, 9).bestSwap(), 3);
            Check.due("into either place", Given.broken(how, 9, 9, 4, 10, 9).bestSwap(), dueOf(how, 100, 9, 9, 4, 10, 9));
            // the last row costs nothing, so that any 90 is best there, and 100 in its place
            Check.due("any one of 90", Given.broken(how, 10, 9, 9, 9, 10).bestSwap(), 4 + 100);
        }
    }

    /** Promise 44: "100 times the index of a word plus that of a later one", of two and of thirty words. */
    private static void swapOfTheLastTwoWords() {
        for (int how = 0; how < 2; how++) {
            Check.due("words 0 and 1", with(Given.broken(how, 1, 9), Given.INNER, 90).bestSwap(), 1);
            // three of 30 are 110; 30 and 10 lack 60 ahead of the 60, but 30 and 60 lack 10
            int[] many = Given.same(30, 3);
            many[28] = 1;
            many[29] = 6;
            Check.due("words 28 and 29", with(Given.broken(how, many), Given.INNER, 110).bestSwap(), 2829);
        }
    }

    /** The least cost of all exchanges, each made by swap() on an object of its own. */
    private static int dueOf(int how, int inner, int... lengths) {
        int least = with(Given.broken(how, lengths), Given.INNER, inner).cost();
        int best = -2;
        for (int i = 0; i < lengths.length; i++) {
            for (int j = i + 1; j < lengths.length; j++) {
                BoardLetters x = with(Given.broken(how, lengths), Given.INNER, inner);
                if (x.swap(i, j) > 0 && x.cost() < least) {
                    least = x.cost();
                    best = 100 * i + j;
                }
            }
        }
        return best;
    }

    /** Promise 44: "(exchanges without rows do not count), or there are no rows now". */
    private static void swapsWithoutRowsDoNotCount() {
        for (int how = 0; how < 2; how++) {
            // 50 and 40 go together; apart they make thirteen rows
            int[] text = Given.same(13, 9);
            text[11] = 5;
            text[12] = 4;
            Check.due("90 goes last, behind both", Given.broken(how, text).bestSwap(), 1012);
            // thirteen rows now, but twelve by the exchange of words 1 and 12
            int[] apart = Given.same(13, 9);
            apart[0] = 5;
            apart[12] = 4;
            Check.due("no rows now", Given.broken(how, apart).bestSwap(), -2);
            Check.due("though there would be", Given.broken(how, apart).swap(1, 12), 12);
        }
    }

    /** Promise 44: "(rows are broken anew then)", by BREAK as it is. */
    private static void swapByLeastCost() {
        int[][] texts = {{4, 9, 5}, {1, 9, 1, 9, 1}, {5, 4, 3, 6, 2, 7, 1, 8}, {8, 1, 8, 1, 12, 1}};
        for (int[] text : texts) {
            for (int how = 0; how < 2; how++) {
                Check.due("BREAK " + how + " of " + Arrays.toString(text), Given.broken(how, text).bestSwap(), dueOf(how, 100, text));
            }
        }
    }

    /** Promise 46: "-1 for an invalid argument"; a row may be fuller than 1. */
    private static void fullAtItsEnds() {
        BoardLetters x = Given.plain(10, 11, 1);
        float[] due = {1f, 1.1f, 0.1f};
        for (int row = 0; row < 3; row++) {
            Check.dueReal("row " + row, x.full(row), due[row]);
        }
        for (int wrong : new int[] {-1, 3, Given.LEAST_INT, Given.GREATEST_INT}) {
            Check.dueReal("row " + wrong, x.full(wrong), -1f);
        }
        BoardLetters y = Check.loaded(Given.board(9999, 1, 0, 1, 0, 0, 1) + Given.even('a', 1, 0, 0));
        Check.say(y, "a");
        Check.dueReal("1 of 9999", y.full(0), 1f / 9999f);
        Check.dueReal("filled", Given.filled(1, 1).full(0), 1f);
    }

    /** Promise 47: "0 if there are none". */
    private static void meanGapAtItsEnds() {
        Check.dueReal("no words", Given.plain().meanGap(), 0);
        Check.dueReal("no rows", Given.thirteenRows().meanGap(), 0);
        Check.dueReal("words of one letter", Given.plain(1, 1, 1).meanGap(), 0);
        Check.dueReal("one gap", Given.plain(1, 2, 1).meanGap(), 2);
        Check.dueReal("gaps of 0", with(Given.plain(3), Given.GAP, 0).meanGap(), 0);
        Check.dueReal("gaps of CAP", with(Given.plain(3), Given.GAP, 10).meanGap(), 10);
        // ten letters are 100 for gap 2, nine are 98 for gap 3, and twelve are wider anyway
        BoardLetters x = Given.filled(10, 9, 12);
        Check.dueReal("of all rows", x.meanGap(), (9 * 2 + 8 * 3 + 11 * 2) / 28.0);
    }
}
