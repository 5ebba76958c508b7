/** Promises 27 to 35, and how words are broken into rows and rows are filled (sections 2 and 3). */
final class RowTests {
    private static final String SIGNS = "board 40 30 lead 2 cap 10 gap 3 word 5 size 1;"
            + "letter a wide 6 left 1 1 1 1 1 1 right 1 1 1 1 1 1;"
            + "letter l wide 2 left 0 0 0 0 0 0 right 0 0 0 0 0 0;"
            + "letter t wide 6 left 0 2 2 2 2 2 right 0 2 2 2 2 open;"
            + "pair a t closer 1;";

    public static void main(String[] args) {
        row();
        rowAtInner();
        rowWiderThanInner();
        rowFilled();
        rowFilledByGapsAlone();
        wordsInEarlyRows();
        wordsInCheapRows();
        waysOfTheSameCost();
        atMostTwelveRows();
        rowsAfterOtherTexts();
        longWordsInRows();
        letterAt();
        place();
        placeAheadOfTheStart();
        gap();
        uneven();
        white();
        touches();
        widest();
        at();
        Check.finish("RowTests");
    }

    private static void dueRow(BoardLetters x, int row, int... due) {
        for (int what = 0; what < due.length; what++) {
            Check.due("row " + row + ", " + what, x.row(row, what), due[what]);
        }
    }

    /** The numbers of words in all rows. */
    private static void dueWords(BoardLetters x, int... due) {
        Check.due("rows", x.value(12), due.length);
        int first = 0;
        for (int row = 0; row < due.length; row++) {
            Check.due("first word of row " + row, x.row(row, 0), first);
            Check.due("words of row " + row, x.row(row, 1), due[row]);
            first += due[row];
        }
    }

    /** Promise 27. */
    private static void row() {
        BoardLetters x = Given.plain(3, 2, 1, 5, 1);
        dueRow(x, 0, 0, 3, 6, 2, 80, 10, 20, 10, 10);
        dueRow(x, 1, 3, 2, 6, 2, 70, 15, 30, 10, 10);
        Check.due("row 2", x.row(2, 0), -1);
        Check.due("row -1", x.row(-1, 0), -1);
        Check.due("what 9", x.row(0, 9), -1);
        Check.due("what -1", x.row(0, -1), -1);
        x.setNumber(5, 2);
        dueRow(x, 0, 0, 1, 3, 2, 60, 20, 40, -2, -2);
        dueRow(x, 1, 1, 2, 3, 2, 80, 10, 20, 20, 20);
        dueRow(x, 2, 3, 1, 5, 2, 100, 0, 0, -2, -2);
        Check.due("no words", new BoardLetters().row(0, 0), -1);
        Check.due("no rows", Given.thirteenRows().row(0, 0), -1);
        x = Given.plain(3);
        x.setNumber(0, 37);
        Check.due("half of 7, cut", x.row(0, 5), 3);
    }

    private static void rowAtInner() {
        BoardLetters x = Given.plain(5, 4);
        dueWords(x, 2);
        dueRow(x, 0, 0, 2, 9, 2, 100, 0, 0, 10, 10);
        x.setNumber(0, 99);
        dueWords(x, 1, 1);
    }

    private static void rowWiderThanInner() {
        BoardLetters x = Given.plain(12, 12, 1);
        dueWords(x, 1, 1, 1);
        dueRow(x, 0, 0, 1, 12, 2, 120, 0, 0, -2, -2);
        x.setFill(true);
        dueRow(x, 1, 1, 1, 12, 2, 120, 0, 0, -2, -2);
        x.setBreak(1);
        dueWords(x, 1, 1, 1);
    }

    /** Section 3: the gap grows first, then the spaces; the last row, too. */
    private static void rowFilled() {
        BoardLetters x = Given.plain(3, 3, 3, 5);
        x.setFill(true);
        // 70 for gap 2 and 4 more for each more: 98 for 9
        dueRow(x, 0, 0, 2, 6, 9, 100, 0, 0, 12, 12);
        // 90 and 6 more for each more: 96 for 3
        dueRow(x, 1, 2, 2, 8, 3, 100, 0, 0, 14, 14);
        x.setFill(false);
        dueRow(x, 0, 0, 2, 6, 2, 70, 15, 30, 10, 10);
        x = Given.plain(2, 2, 2);
        x.setFill(true);
        // 80 and 3 more for each more: 98 for 8
        dueRow(x, 0, 0, 3, 6, 8, 100, 0, 0, 11, 11);
        x.setNumber(0, 102);
        // 101 for 9, so that the first space alone is wider
        dueRow(x, 0, 0, 3, 6, 9, 102, 0, 0, 10, 11);
        Check.due("second word", x.place(0, 2), 1000 + 27 + 11);
        Check.due("third word", x.place(0, 4), 1000 + 27 + 11 + 27 + 10);
        x.setFill(false);
        dueRow(x, 0, 0, 3, 6, 2, 80, 11, 22, 10, 10);
        x.setFill(true);
        x.setNumber(5, 2);
        // 100 for gap 2 and two words, 4 more for each more
        dueRow(x, 0, 0, 2, 4, 2, 102, 0, 0, 22, 22);
    }

    private static void rowFilledByGapsAlone() {
        BoardLetters x = Given.plain(1, 1, 1, 1);
        x.setFill(true);
        x.setNumber(0, 102);
        // no gaps to grow: GAP is CAP, and 32 for three spaces
        dueRow(x, 0, 0, 4, 4, 10, 102, 0, 0, 20, 21);
        Check.due("second place", x.place(0, 1), 1000 + 10 + 21);
        Check.due("third place", x.place(0, 2), 1000 + 20 + 42);
        Check.due("fourth place", x.place(0, 3), 1000 + 30 + 62);
        x = Given.plain(10, 2, 2, 1, 12);
        x.setFill(true);
        x.setNumber(0, 105);
        // 70 and 2 more for each more: 86 for CAP, and 19 for two spaces
        dueRow(x, 1, 1, 3, 5, 10, 105, 0, 0, 19, 20);
        Check.due("second of row 1", x.place(1, 2), 1000 + 28 + 20);
        Check.due("third of row 1", x.place(1, 4), 1000 + 28 + 20 + 28 + 19);
        x = Given.plain(3);
        x.setFill(true);
        // one word alone: CAP, and what it lacks stays
        dueRow(x, 0, 0, 1, 3, 10, 46, 27, 54, -2, -2);
        x.setNumber(0, 45);
        dueRow(x, 0, 0, 1, 3, 9, 44, 0, 1, -2, -2);
    }

    /** Section 2, BREAK 0. */
    private static void wordsInEarlyRows() {
        dueWords(Given.plain(4, 5, 1, 9), 2, 1, 1);
        dueWords(Given.plain(1, 1, 1, 1, 1, 1), 5, 1);
        dueWords(Given.plain());
        BoardLetters x = Given.plain(4, 5, 1);
        x.setFill(true);
        dueWords(x, 2, 1);
        x.setNumber(4, 0);
        dueWords(x, 3);
    }

    /** Section 2, BREAK 1: the sum of squares of all rows but the last one. */
    private static void wordsInCheapRows() {
        BoardLetters x = Given.plain(4, 5, 1, 9);
        x.setBreak(1);
        // 60 * 60 + 30 * 30 is less than 0 and 90 * 90
        dueWords(x, 1, 2, 1);
        x.setBreak(0);
        dueWords(x, 2, 1, 1);
        x = Given.plain(1, 1, 1);
        x.setBreak(1);
        dueWords(x, 3);
        // a row that is wider costs nothing
        x = Given.plain(5, 1, 12, 1);
        x.setBreak(1);
        dueWords(x, 2, 1, 1);
        x = Given.plain();
        x.setBreak(1);
        dueWords(x);
    }

    private static void waysOfTheSameCost() {
        // 90 and 40 or 40 and 90: 10 * 10 + 60 * 60 both
        BoardLetters x = Given.plain(4, 4, 4, 9);
        x.setBreak(1);
        dueWords(x, 2, 1, 1);
        // the first word costs nothing; then the same two ways
        x = Given.plain(11, 4, 4, 4, 9);
        x.setBreak(1);
        dueWords(x, 1, 2, 1, 1);
    }

    private static void atMostTwelveRows() {
        BoardLetters x = Given.plain(9, 9, 9, 9, 9, 9, 9, 9, 9, 9, 9, 9);
        dueWords(x, 1, 1, 1, 1, 1, 1, 1, 1, 1, 1, 1, 1);
        x.setBreak(1);
        dueWords(x, 1, 1, 1, 1, 1, 1, 1, 1, 1, 1, 1, 1);
        x = Given.plain(9, 9, 9, 9, 9, 9, 9, 9, 9, 9, 9, 9, 9);
        dueWords(x);
        x.setBreak(1);
        dueWords(x);
        x.setNumber(0, 9999);
        dueWords(x, 13);
        // five words that cost nothing and seven rows for the others, which six rows hold too, but at more cost
        x = Given.plain(12, 12, 12, 12, 12, 2, 1, 8, 6, 3, 1, 7, 1, 1, 8, 1);
        x.setBreak(1);
        dueWords(x, 1, 1, 1, 1, 1, 2, 1, 1, 2, 2, 2, 1);
        // with one word more ahead only six rows are left for them
        x = Given.plain(12, 12, 12, 12, 12, 12, 2, 1, 8, 6, 3, 1, 7, 1, 1, 8, 1);
        x.setBreak(1);
        dueWords(x, 1, 1, 1, 1, 1, 1, 2, 1, 2, 2, 2, 2);
    }

    private static void rowsAfterOtherTexts() {
        BoardLetters x = Given.plain(12, 12, 12, 12, 12, 12, 2, 1, 8, 6, 3, 1, 7, 1, 1, 8, 1);
        x.setBreak(1);
        Check.due("twelve rows", x.value(12), 12);
        Check.say(x, Given.words(9, 9, 9, 9, 9, 9, 9, 9, 9, 9, 9, 5, 4, 9));
        dueWords(x);
        Check.due("no cost", x.cost(), -2);
        for (int count = 12; count > 0; count--) {
            Check.say(x, Given.words(9, 9, 9, 9, 9, 9, 9, 9, 9, 9, 9, 9).substring(0, 10 * count));
            Check.due("rows", x.value(12), count);
            Check.due("cost", x.cost(), 100 * (count - 1));
            Check.due("least cost", x.leastCost(), 100 * (count - 1));
        }
        for (int count = 12; count > 0; count -= 3) {
            Check.say(x, Given.words(9, 9, 9, 9, 9, 9, 9, 9, 9, 9, 9, 9));
            Check.due("least cost of twelve", x.leastCost(), 1100);
            Check.say(x, Given.words(9, 9, 9, 9, 9, 9, 9, 9, 9, 9, 9, 9).substring(0, 10 * count));
            Check.due("least cost of " + count, x.leastCost(), 100 * (count - 1));
        }
        Check.say(x, Given.words(4, 5, 1, 9));
        dueWords(x, 1, 2, 1);
        x.setNumber(0, 10);
        dueWords(x, 1, 1, 1, 1);
        Check.say(x, "");
        dueWords(x);
        // odd and even words behind twelve rows
        Check.say(x, Given.words(9, 9, 9, 9, 9, 9, 9, 9, 9, 9, 9, 9, 9, 9));
        dueWords(x);
        Check.due("no way", x.leastCost(), -2);
        Check.say(x, Given.words(9, 9, 9, 9, 9, 9, 9, 9, 9, 9, 9, 9, 9));
        dueWords(x);
        Check.due("no way", x.leastCost(), -2);
    }

    /** Thirty words of twelve letters, as many as there can be. */
    private static void longWordsInRows() {
        BoardLetters x = Check.loaded("board 9999 30 lead 2 cap 30 gap 30 word 99 size 1;"
                + "letter m wide 60 left 0 0 0 0 0 0 right 0 0 0 0 0 0;pair m m wider 9;");
        Check.say(x, "mmmmmmmmmmmm ".repeat(30));
        // a word is 60 * 12 + 39 * 11 wide
        int wide = 1149;
        dueRow(x, 0, 0, 8, 96, 30, 8 * wide + 7 * 99, 57, 114, 99, 99);
        dueRow(x, 3, 24, 6, 72, 30, 6 * wide + 5 * 99, 1305, 2610, 99, 99);
        Check.due("last place", x.place(3, 71), 1000 + 1305 + 6 * wide + 5 * 99 - 60);
        Check.due("its letter", x.letterAt(3, 71), 12);
        Check.due("no gap behind it", x.gap(3, 71), -2);
        Check.due("no white behind it", x.white(3, 71, 5), -2);
        Check.due("no touch", x.touches(3), 0);
        x.setFill(true);
        x.setBreak(1);
        Check.due("four rows", x.value(12), 4);
        x.setNumber(5, 9);
        Check.due("no rows", x.value(12), 0);
    }

    private static BoardLetters signs() {
        BoardLetters x = Check.loaded(SIGNS);
        // rows of tall and at (20 and 12 wide), all and la (15 and 10), ta (11)
        Check.say(x, "tall at all la ta");
        return x;
    }

    private static void dueBadRow(BoardLetters x, int row) {
        Check.due("letterAt " + row, x.letterAt(row, 0), -1);
        Check.due("place " + row, x.place(row, 0), -1);
        Check.due("gap " + row, x.gap(row, 0), -1);
        Check.due("uneven " + row, x.uneven(row), -1);
        Check.due("white " + row, x.white(row, 0, 0), -1);
        Check.due("touches " + row, x.touches(row), -1);
        Check.due("at " + row, x.at(row, 0), -1);
    }

    /** Promise 28, and wrong rows for the others. */
    private static void letterAt() {
        BoardLetters x = signs();
        int[] due = {19, 0, 11, 11, 0, 19, -2};
        for (int i = 0; i < due.length; i++) {
            Check.due("letter " + i, x.letterAt(0, i), due[i]);
        }
        Check.due("second row", x.letterAt(1, 3), 11);
        Check.due("i -1", x.letterAt(0, -1), -1);
        Check.due("greatest i", x.letterAt(0, Integer.MAX_VALUE), -2);
        dueBadRow(x, 3);
        dueBadRow(x, -1);
        dueBadRow(x, Integer.MAX_VALUE);
        dueBadRow(new BoardLetters(), 0);
        dueBadRow(Given.thirteenRows(), 0);
    }

    /** Promise 29. */
    private static void place() {
        BoardLetters x = signs();
        // start 1; t 6 and -1, a 6 and 2, l 2 and 3; 20 and a space of 5; a 6 and 0
        int[] due = {1001, 1006, 1014, 1019, 1026, 1032, -2};
        for (int i = 0; i < due.length; i++) {
            Check.due("place " + i, x.place(0, i), due[i]);
        }
        Check.due("second row, start 5", x.place(1, 3), 1005 + 15 + 5);
        Check.due("i -1", x.place(0, -1), -1);
        x.setNumber(5, 2);
        // one word a row; tall is 40 wide
        Check.due("start", x.place(0, 0), 1000);
        Check.due("twice 5", x.place(0, 1), 1010);
        Check.due("twice 8", x.place(0, 2), 1026);
        x.setNumber(5, 1);
        x.setFill(true);
        Check.due("gap of the row", x.row(2, 3), 10);
        Check.due("for the gap of the row", x.place(2, 1) - x.place(2, 0), 6 + x.distance(19, 0, 10) - 9);
    }

    private static void placeAheadOfTheStart() {
        BoardLetters x = Check.loaded("board 10 30 lead 2 cap 10 gap 0 word 5 size 3;letter i wide 1 left 1 1 1 1 1 1 right 1 1 1 1 1 1;");
        Check.say(x, "iii i");
        // the word is 1 wide at least, times 3; the distance is -9
        dueRow(x, 0, 0, 1, 3, 0, 3, 3, 7, -2, -2);
        Check.due("first", x.place(0, 0), 1003);
        Check.due("second", x.place(0, 1), 1003 - 24);
        Check.due("third", x.place(0, 2), 1003 - 48);
        Check.due("at the first", x.at(0, 3), 0);
        Check.due("ahead of it", x.at(0, 2), -2);
    }

    /** Promise 30. */
    private static void gap() {
        BoardLetters x = signs();
        int[] due = {3, 3, 3, -2, 2, -2, -2};
        for (int i = 0; i < due.length; i++) {
            Check.due("gap " + i, x.gap(0, i), due[i]);
        }
        Check.due("i -1", x.gap(0, -1), -1);
        Check.due("greatest i", x.gap(0, Integer.MAX_VALUE), -2);
        x.setFill(true);
        Check.due("for the gap of the row", x.gap(2, 0), 10);
        Check.say(x, "ta");
        Check.due("filled", x.gap(0, 0), 10);
        x.correct(19, 0, 9);
        Check.due("never above CAP", x.gap(0, 0), 10);
        x.setFill(false);
        x.correct(19, 0, -9);
        // at -9 there is the open band alone
        Check.due("at -9 at least", x.gap(0, 0), 1);
    }

    /** Promise 31. */
    private static void uneven() {
        BoardLetters x = signs();
        Check.due("3 and 2", x.uneven(0), 1);
        Check.due("one gap alone", x.uneven(2), 0);
        x.correct(11, 11, 3);
        Check.due("6 and 2", x.uneven(0), 4);
        Check.due("6 and 3", x.uneven(1), 3);
        Check.say(x, "a t l");
        Check.due("no gap", x.uneven(0), -2);
        Check.say(x, "ll");
        x.correct(11, 11, -9);
        Check.due("a gap of 0", x.uneven(0), 0);
    }

    /** Promise 32. */
    private static void white() {
        BoardLetters x = signs();
        // t a: right of t 0 2 2 2 2 open, distance -1, left of a 1
        int[] due = {1000, 1002, 1002, 1002, 1002, -2};
        for (int band = 0; band < 6; band++) {
            Check.due("white " + band, x.white(0, 0, band), due[band]);
        }
        Check.due("a t with its correction", x.white(0, 4, 1), 1003);
        Check.due("end of a word", x.white(0, 3, 0), -2);
        Check.due("end of the row", x.white(0, 5, 0), -2);
        Check.due("no such letter", x.white(0, 6, 0), -2);
        Check.due("i -1", x.white(0, -1, 0), -1);
        Check.due("band -1", x.white(0, 0, -1), -1);
        Check.due("band 6", x.white(0, 0, 6), -1);
        Check.due("invalid ahead of not found", x.white(0, 99, 6), -1);
        x.setNumber(5, 3);
        Check.due("times SIZE", x.white(0, 0, 1), 1006);
        x.setNumber(3, 0);
        // 0 - 9 + 1, times 3
        Check.due("below 0", x.white(0, 0, 0), 1000 - 24);
        BoardLetters y = Check.loaded("board 40 30 lead 2 cap 10 gap 3 word 5 size 1;"
                + "letter c wide 6 left open 1 1 1 1 1 right 2 2 2 2 2 2;");
        Check.say(y, "cc");
        Check.due("open on the left of the next one", y.white(0, 0, 0), -2);
        // 10 and 5 * (2 + d + 1) are 18 or more for -1
        Check.due("right inset, distance and left inset", y.white(0, 0, 1), 1000 + 2 - 1 + 1);
        y.setFill(true);
        Check.due("for the gap of the row", y.white(0, 0, 1), 1010);
    }

    /** Promise 33. */
    private static void touches() {
        BoardLetters x = signs();
        Check.due("t and a in the first band", x.touches(0), 1);
        Check.due("none", x.touches(1), 0);
        Check.due("in the last row", x.touches(2), 1);
        x.correct(11, 11, -3);
        Check.due("l and l", x.touches(0), 2);
        Check.due("in the second row", x.touches(1), 1);
        x.correct(11, 11, -2);
        Check.due("1 is no touch", x.touches(1), 0);
        x.correct(19, 0, 1);
        Check.due("not for a band of 1", x.touches(2), 0);
        for (int band = 0; band < 6; band++) {
            String side = "9 9 9 9 9 9";
            BoardLetters z = Check.loaded("board 40 30 lead 2 cap 10 gap 5 word 5 size 1;letter c wide 6 left "
                    + side.substring(0, 2 * band) + "0" + side.substring(2 * band + 1)
                    + " right 0 0 0 0 0 0;letter d wide 6 left 9 9 9 9 9 9 right 8 8 8 8 8 8;");
            Check.say(z, "cc cd");
            // 5 * (d + 9) is 30 or more for -3, which is too near in one band
            Check.due("touch in band " + band, z.touches(0), 1);
            Check.due("white there", z.white(0, 0, band), 997);
        }
        BoardLetters y = Check.loaded("board 40 30 lead 2 cap 10 gap 3 word 5 size 1;"
                + "letter c wide 6 left open open open open open open right 0 0 0 0 0 0;");
        Check.say(y, "ccc");
        Check.due("open bands never touch", y.touches(0), 0);
    }

    /** Promise 34. */
    private static void widest() {
        BoardLetters x = signs();
        Check.due("fullest", x.widest(true), 0);
        Check.due("emptiest", x.widest(false), 2);
        Check.due("fullest without rows", new BoardLetters().widest(true), -2);
        Check.due("emptiest without rows", new BoardLetters().widest(false), -2);
        x = Given.plain(1, 9, 9, 5, 1, 5, 1);
        // 10 alone, 90, 90, 70, 70: of several the first one
        Check.due("fullest of several", x.widest(true), 1);
        Check.due("emptiest of all", x.widest(false), 0);
        x = Given.plain(9, 5, 1, 5, 1);
        Check.due("emptiest of several", x.widest(false), 1);
        x = Given.plain(3, 1, 1, 1, 9);
        x.setFill(true);
        // 30 + 3 * 10 and spaces fill 100; 90 grows to 98 alone
        Check.due("with its spaces as they are", x.widest(true), 0);
        Check.due("filled", x.row(0, 4), 100);
        Check.due("emptiest filled", x.widest(false), 1);
        x = Given.plain(12, 9, 1);
        Check.due("wider than INNER", x.widest(true), 0);
    }

    /** Promise 35. */
    private static void at() {
        BoardLetters x = signs();
        // t 1 to 6, a 6 to 11, l 14 and 15, l 19 and 20, a 26 to 31, t 32 to 37
        Check.due("ahead", x.at(0, 0), -2);
        Check.due("start", x.at(0, 1), 0);
        Check.due("the first of two that hold it", x.at(0, 6), 0);
        Check.due("the next one", x.at(0, 7), 1);
        Check.due("its end", x.at(0, 11), 1);
        Check.due("between", x.at(0, 12), -2);
        Check.due("second word", x.at(0, 26), 4);
        Check.due("last one", x.at(0, 37), 5);
        Check.due("behind", x.at(0, 38), -2);
        Check.due("x 9999", x.at(0, 9999), -2);
        Check.due("x 10000", x.at(0, 10000), -1);
        Check.due("x -1", x.at(0, -1), -1);
        x.setNumber(5, 2);
        // t is twice 6 wide
        Check.due("times SIZE", x.at(0, 11), 0);
        Check.due("behind it", x.at(0, 12), 1);
    }
}
