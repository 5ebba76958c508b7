/** Promises 36 to 47: what fits, what it costs, what helps, and the rates. */
final class FittingTests {
    public static void main(String[] args) {
        fits();
        fitsInHigh();
        bestSize();
        bestGap();
        bestGapBesideFill();
        leastInner();
        height();
        cost();
        leastCost();
        fillGap();
        bestSwap();
        bestSwapBesideOthers();
        bestCorrection();
        full();
        meanGap();
        Check.finish("FittingTests");
    }

    /** Promise 36. */
    private static void fits() {
        Check.dueTruth("no words", new BoardLetters().fits(), true);
        Check.dueTruth("one row", Given.plain(5, 4).fits(), true);
        Check.dueTruth("a word of 100", Given.plain(10).fits(), true);
        Check.dueTruth("a word of 110", Given.plain(1, 11, 1).fits(), false);
        Check.dueTruth("no rows", Given.thirteenRows().fits(), false);
        BoardLetters x = Given.plain(10, 1);
        x.setFill(true);
        Check.dueTruth("also if FILL is on", x.fits(), true);
        x.setBreak(1);
        Check.dueTruth("also by BREAK 1", x.fits(), true);
        x.setNumber(0, 99);
        Check.dueTruth("wider by 1", x.fits(), false);
        x = new BoardLetters();
        x.setNumber(1, 1);
        Check.dueTruth("no words on a flat board", x.fits(), true);
    }

    private static void fitsInHigh() {
        BoardLetters x = Given.plain(9, 9, 9);
        x.setNumber(2, 5);
        // 3 * 6 + 2 * 5
        x.setNumber(1, 28);
        Check.dueTruth("as high as HIGH", x.fits(), true);
        x.setNumber(1, 27);
        Check.dueTruth("higher by 1", x.fits(), false);
        x = Given.plain(4, 5, 1, 9);
        x.setNumber(1, 22);
        Check.dueTruth("three rows", x.fits(), true);
        x.setNumber(5, 2);
        Check.dueTruth("SIZE 2", x.fits(), false);
    }

    /** Promise 37. */
    private static void bestSize() {
        Check.due("no words", new BoardLetters().bestSize(), 9);
        Check.due("one letter", Given.plain(1).bestSize(), 9);
        // 20 times 5
        Check.due("one word", Given.plain(2).bestSize(), 5);
        BoardLetters x = Given.plain(2);
        x.setNumber(1, 29);
        Check.due("HIGH 29", x.bestSize(), 4);
        x.setNumber(1, 5);
        Check.due("HIGH 5", x.bestSize(), -2);
        Check.due("too wide", Given.plain(11).bestSize(), -2);
        Check.due("no rows", Given.thirteenRows().bestSize(), -2);
        x = Given.plain(2, 2, 2);
        // by SIZE 2 100 and 40 in two rows of 12, by 5 three rows of 30 and 4, by 4 three of 24
        Check.due("more rows", x.bestSize(), 5);
        x.setNumber(1, 93);
        Check.due("HIGH 93", x.bestSize(), 4);
        x.setNumber(5, 9);
        Check.due("whatever SIZE is", x.bestSize(), 4);
        Check.due("SIZE stays", x.value(5), 9);
        Check.due("rows stay", x.value(12), 3);
        Check.due("wide rows stay", x.row(0, 4), 180);
    }

    /** Promise 38: a word of n letters is 10 n + (n - 1) (T - 2) wide for T above 0. */
    private static void bestGap() {
        Check.due("no words", new BoardLetters().bestGap(), 10);
        Check.due("one letter", Given.plain(1).bestGap(), 10);
        // 90 + 8 (T - 2)
        Check.due("nine letters", Given.plain(9).bestGap(), 3);
        Check.due("ten letters", Given.plain(10).bestGap(), 2);
        // 110 - 10
        Check.due("eleven letters", Given.plain(11).bestGap(), 1);
        // 120 - 11; for T 0 the distance is -9
        Check.due("twelve letters", Given.plain(12).bestGap(), 0);
        BoardLetters x = Given.plain(12);
        x.setNumber(0, 20);
        Check.due("none", x.bestGap(), -2);
        x = Given.plain(5, 4);
        x.setNumber(1, 6);
        Check.due("in one row", x.bestGap(), 2);
        x.setNumber(1, 14);
        Check.due("in two rows", x.bestGap(), 10);
        Check.due("GAP stays", x.value(3), 2);
        Check.due("rows stay", x.value(12), 1);
    }

    private static void bestGapBesideFill() {
        BoardLetters x = Given.plain(9);
        x.setFill(true);
        x.setBreak(1);
        Check.due("for GAP also if FILL is on", x.bestGap(), 3);
        x.correct(0, 0, -1);
        Check.due("with corrections", x.bestGap(), 4);
    }

    /** Promise 39. */
    private static void leastInner() {
        BoardLetters x = Given.plain(4, 5, 1, 9);
        Check.due("one row", x.leastInner(1), 220);
        // 100 and 110
        Check.due("two rows", x.leastInner(2), 110);
        // 40, 70 and 90
        Check.due("three rows", x.leastInner(3), 90);
        Check.due("four rows", x.leastInner(4), 90);
        Check.due("twelve rows", x.leastInner(12), 90);
        x.setBreak(1);
        x.setNumber(0, 10);
        Check.due("whatever BREAK and INNER are", x.leastInner(2), 110);
        Check.due("INNER stays", x.value(0), 10);
        Check.due("rows stay", x.value(12), 4);
        Check.due("0 rows", x.leastInner(0), -1);
        Check.due("13 rows", x.leastInner(13), -1);
        Check.due("-1 rows", x.leastInner(-1), -1);
        Check.due("no words", new BoardLetters().leastInner(1), -2);
        Check.due("invalid without words", new BoardLetters().leastInner(0), -1);
        Check.due("too many for 12 rows of now", Given.thirteenRows().leastInner(12), 190);
        BoardLetters y = Check.loaded("board 10 30 lead 2 cap 10 gap 0 word 5 size 1;letter i wide 1 left 1 1 1 1 1 1 right 1 1 1 1 1 1;");
        Check.say(y, "i");
        Check.due("10 at least", y.leastInner(1), 10);
        BoardLetters z = Check.loaded("board 10 30 lead 2 cap 30 gap 30 word 99 size 9;letter m wide 60 left 0 0 0 0 0 0 right 0 0 0 0 0 0;");
        Check.say(z, "mmmmmmmmmmmm ".repeat(30));
        // a word is 720 + 330 wide, times 9
        Check.due("a word of 9450 each, 30 of them", z.leastInner(12), -2);
        Check.say(z, "mmmmmmmmmmmm ".repeat(12));
        Check.due("12 of them", z.leastInner(12), 9450);
        z.correct(12, 12, 9);
        Check.due("a word of 10341", z.leastInner(12), -2);
    }

    /** Promise 40. */
    private static void height() {
        Check.due("no words", new BoardLetters().height(), 0);
        Check.due("no rows", Given.thirteenRows().height(), 0);
        BoardLetters x = Given.plain(9, 9, 9);
        Check.due("three rows", x.height(), 22);
        x.setNumber(2, 0);
        Check.due("without LEAD", x.height(), 18);
        x.setNumber(2, 99);
        x.setNumber(5, 9);
        Check.due("LEAD is not times SIZE", x.height(), 3 * 54 + 198);
        Check.due("one row", Given.plain(1).height(), 6);
    }

    /** Promise 41. */
    private static void cost() {
        Check.due("no words", new BoardLetters().cost(), -2);
        Check.due("no rows", Given.thirteenRows().cost(), -2);
        Check.due("one row", Given.plain(1).cost(), 0);
        BoardLetters x = Given.plain(4, 5, 1, 9);
        Check.due("0 and 90 * 90", x.cost(), 8100);
        x.setFill(true);
        Check.due("by the widths for GAP", x.cost(), 8100);
        x.setBreak(1);
        Check.due("60 * 60 and 30 * 30", x.cost(), 4500);
        Check.due("a wider row costs nothing", Given.plain(9, 12, 9, 1).cost(), 100 + 0 + 100);
        BoardLetters y = Given.plain(1, 1, 1, 1, 1, 1, 1, 1, 1, 1, 1, 1);
        y.setNumber(0, 10);
        Check.due("no lack", y.cost(), 0);
        y.setNumber(0, 29);
        Check.due("eleven times 19 * 19", y.cost(), 11 * 361);
        BoardLetters z = Check.loaded("board 9999 30 lead 2 cap 30 gap 30 word 99 size 9;"
                + "letter m wide 60 left 0 0 0 0 0 0 right 0 0 0 0 0 0;letter i wide 1 left 0 0 0 0 0 0 right 0 0 0 0 0 0;");
        String pair = "i mmmmmmmmmmmm ";
        Check.say(z, pair.repeat(6));
        // 9, and 9450 with a space of 891 between: 11 rows of 9 or of 9450 ahead of the last one
        Check.due("great costs", z.cost(), 6 * 9990 * 9990 + 5 * 549 * 549);
    }

    /** Promise 42. */
    private static void leastCost() {
        Check.due("no words", new BoardLetters().leastCost(), -2);
        Check.due("no way", Given.thirteenRows().leastCost(), -2);
        BoardLetters x = Given.plain(4, 5, 1, 9);
        Check.due("by BREAK 0 too", x.leastCost(), 4500);
        Check.due("cost stays", x.cost(), 8100);
        Check.due("rows stay", x.row(0, 1), 2);
        x.setBreak(1);
        x.setFill(true);
        Check.due("by BREAK 1", x.leastCost(), 4500);
        Check.due("one row", Given.plain(3, 3).leastCost(), 0);
        Check.due("twelve rows", Given.plain(12, 12, 12, 12, 12, 2, 1, 8, 6, 3, 1, 7, 1, 1, 8, 1).leastCost(), 8200);
        Check.due("at most twelve", Given.plain(12, 12, 12, 12, 12, 12, 2, 1, 8, 6, 3, 1, 7, 1, 1, 8, 1).leastCost(), 9000);
    }

    /** Promise 43. */
    private static void fillGap() {
        BoardLetters x = Given.plain(3, 3, 3, 5, 11);
        int[] due = {9, 3, 2};
        for (int row = 0; row < 3; row++) {
            Check.due("off, row " + row, x.fillGap(row), due[row]);
            Check.due("gap of row " + row, x.row(row, 3), 2);
        }
        x.setFill(true);
        for (int row = 0; row < 3; row++) {
            Check.due("on, row " + row, x.fillGap(row), due[row]);
            Check.due("filled gap of row " + row, x.row(row, 3), due[row]);
        }
        Check.due("row 3", x.fillGap(3), -1);
        Check.due("row -1", x.fillGap(-1), -1);
        Check.due("no words", new BoardLetters().fillGap(0), -1);
        Check.due("no rows", Given.thirteenRows().fillGap(0), -1);
        Check.due("CAP", Given.plain(1).fillGap(0), 10);
        // 20 + T - 2
        BoardLetters y = Given.plain(2);
        y.setNumber(0, 27);
        Check.due("as wide as INNER", y.fillGap(0), 9);
    }

    /** Promise 44. */
    private static void bestSwap() {
        Check.due("no words", new BoardLetters().bestSwap(), -2);
        Check.due("no rows", Given.thirteenRows().bestSwap(), -2);
        Check.due("one row", Given.plain(3, 3).bestSwap(), -2);
        // 40, 90 and 50 each alone; 40 and 50 go together, ahead of 90 with a cost of 0
        BoardLetters x = Given.plain(4, 9, 5);
        Check.due("cost now", x.cost(), 3700);
        Check.due("the least cost", x.bestSwap(), 102);
        Check.due("words stay", x.word(0, 0) * 100 + x.word(1, 0) * 10 + x.word(2, 0), 495);
        x.swap(1, 2);
        Check.due("cost then", x.cost(), 0);
        Check.due("nothing helps", x.bestSwap(), -2);
        // 90 first or last: 100 both
        x = Given.plain(4, 9, 4);
        Check.due("cost of three rows", x.cost(), 3700);
        Check.due("of several the smallest", x.bestSwap(), 1);
        x.swap(0, 1);
        Check.due("cost of two", x.cost(), 100);
        Check.due("not less than now", x.bestSwap(), -2);
        Check.due("words of the same width", Given.plain(9, 9, 9).bestSwap(), -2);
    }

    private static void bestSwapBesideOthers() {
        BoardLetters x = Given.plain(4, 9, 5);
        x.setBreak(1);
        x.setFill(true);
        // 40 + 10 + 50 and 90: the exchange of the last two makes 0
        Check.due("by BREAK 1", x.bestSwap(), 102);
        // twelve rows now; exchanges that make thirteen do not count
        BoardLetters y = Given.plain(9, 9, 9, 9, 9, 9, 9, 9, 9, 9, 9, 5, 4);
        Check.due("twelve rows", y.value(12), 12);
        Check.due("cost", y.cost(), 1100);
        // 50 or 40 apart from the other one make thirteen rows, but 90 behind both makes the cost 1000
        Check.due("exchanges without rows do not count", y.bestSwap(), 1012);
        BoardLetters z = Given.plain(9, 1, 9, 9, 9, 2);
        Check.due("rows", z.value(12), 6);
        Check.due("cost of six", z.cost(), 100 + 8100 + 100 + 100 + 100);
        int[][] texts = {{9, 1, 9, 9, 9, 2}, {4, 5, 1, 9}, {2, 1, 8, 6, 3, 1, 7, 1, 1, 8, 1}, {3, 8, 2, 5, 4, 12, 6, 1}};
        for (int[] text : texts) {
            for (int how = 0; how < 2; how++) {
                Check.due("the least of all by BREAK " + how, Given.broken(how, text).bestSwap(), dueOf(how, text));
            }
        }
    }

    /** The least cost among all exchanges, each made by swap() on a new object. */
    private static int dueOf(int how, int... lengths) {
        int words = lengths.length;
        int least = Given.broken(how, lengths).cost();
        int best = -2;
        for (int i = 0; i < words; i++) {
            for (int j = i + 1; j < words; j++) {
                BoardLetters y = Given.broken(how, lengths);
                y.swap(i, j);
                if (y.value(12) > 0 && y.cost() < least) {
                    least = y.cost();
                    best = 100 * i + j;
                }
            }
        }
        return best;
    }

    /**
     * Promise 45. One step of the distance changes each band by 1 at most, and so the gap; at the least
     * distance the gap is GAP itself, or the distance is -9 and no correction makes the gap smaller.
     */
    private static void bestCorrection() {
        BoardLetters x = Check.loaded("board 40 30 lead 2 cap 10 gap 3 word 5 size 1;"
                + "letter a wide 6 left 1 1 1 1 1 1 right 1 1 1 1 1 1;"
                + "letter o wide 6 left open 9 0 3 1 1 right open open 1 4 1 0;"
                + "letter x wide 6 left 9 9 9 9 9 9 right 9 9 9 9 9 9;pair a o wider 9;");
        int[] told = {0, 14, 23};
        for (int gap = 0; gap <= 10; gap++) {
            x.setNumber(3, gap);
            for (int a : told) {
                for (int b : told) {
                    Check.due("GAP " + gap + " of " + a + " and " + b, x.bestCorrection(a, b), 9);
                }
            }
        }
        Check.due("correction stays", x.correction(0, 14), 18);
        Check.due("first not told", x.bestCorrection(1, 0), -1);
        Check.due("second not told", x.bestCorrection(0, 1), -1);
        Check.due("letter 26", x.bestCorrection(26, 0), -1);
        Check.due("letter -1", x.bestCorrection(0, -1), -1);
    }

    /** Promise 46. */
    private static void full() {
        BoardLetters x = Given.plain(3, 3, 11);
        Check.dueReal("70 of 100", x.full(0), 70f / 100f);
        Check.dueReal("wider", x.full(1), 110f / 100f);
        Check.dueReal("row 2", x.full(2), -1f);
        Check.dueReal("row -1", x.full(-1), -1f);
        x.setFill(true);
        Check.dueReal("with its spaces as they are", x.full(0), 1f);
        x.setFill(false);
        x.setNumber(0, 77);
        Check.dueReal("as floats", x.full(0), 70f / 77f);
        Check.dueReal("no words", new BoardLetters().full(0), -1f);
        Check.dueReal("no rows", Given.thirteenRows().full(0), -1f);
    }

    /** Promise 47. */
    private static void meanGap() {
        Check.dueReal("no words", new BoardLetters().meanGap(), 0);
        Check.dueReal("no rows", Given.thirteenRows().meanGap(), 0);
        Check.dueReal("no gaps", Given.plain(1, 1).meanGap(), 0);
        BoardLetters x = Given.plain(2, 3, 9);
        Check.dueReal("all of 2", x.meanGap(), 2);
        x.setFill(true);
        // 20 and 30 grow to 9 (70 + 3 * 7), 90 to 3
        Check.due("first gap", x.row(0, 3), 10);
        Check.due("second gap", x.row(1, 3), 3);
        Check.dueReal("3 of 10 and 8 of 3", x.meanGap(), 54.0 / 11.0);
    }
}
