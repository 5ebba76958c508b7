/** The boundary cases of sections 2 and 3, and of promises 24 to 35, which ask for words and rows. */
final class RowEdgeTests {
    private static final String BOARD = Given.board(100, 100, 2, 10, 0, 8, 1);

    public static void main(String[] args) {
        wordIsOneWideAtLeast();
        wordOfDifferentLetters();
        wordOfOneLetter();
        spacesStandBetweenWordsAlone();
        rowAsWideAsInner();
        oneWordAloneMayBeWider();
        earlyRowsTakeAsManyAsTheyCan();
        lastRowCostsNothing();
        widerRowCostsNothing();
        firstRowHasTheMostWords();
        laterRowsHaveTheMostWords();
        twelveRowsAndThirteen();
        twelveRowsAtHigherCost();
        rowsOfOneTextAfterAnother();
        whatIsAnsweredWithoutRows();
        whatIsAnsweredWithoutWords();
        unfilledRows();
        filledRowAsWideAsInner();
        gapGrowsToCap();
        gapIsNotLessThanGap();
        theLastRowIsFilledToo();
        whatIsLeftOverGoesToTheFirstSpaces();
        whatIsLeftOverInALaterRow();
        lackLessThanTheSpaces();
        oneWordHasNoSpaceToGrow();
        widerRowIsNotFilled();
        startIsCut();
        startOfAWiderRow();
        placesOfLetters();
        wordsOfARow();
        widthOfAWordIsForGap();
        lettersOfAWord();
        longestOfSeveral();
        lettersOfARow();
        gapsOfARow();
        unevenAtItsEnds();
        whiteAtItsEnds();
        whiteOfOpenBands();
        touchesAtItsEnds();
        widestOfSeveral();
        widestOfFilledRows();
        edgesOfLetters();
        firstOfTheLettersThatHoldAPlace();
        Check.finish("RowEdgeTests");
    }

    private static void dueRow(BoardLetters x, int row, int... due) {
        for (int what = 0; what < due.length; what++) {
            Check.due("row " + row + ", " + what, x.row(row, what), due[what]);
        }
    }

    private static void dueRows(String about, BoardLetters x, String due) {
        Check.dueText(about, Given.rowsOf(x), due);
    }

    // ---- section 2

    /** Section 2: "but 1 at least"; with GAP 0 the distance is -9. */
    private static void wordIsOneWideAtLeast() {
        BoardLetters x = Check.loaded(BOARD + Given.even('d', 4, 1, 1) + Given.even('f', 5, 1, 1) + Given.even('s', 6, 1, 1));
        Check.say(x, "ss sf ff fd dd dddddddddddd");
        int[] due = {3, 2, 1, 1, 1, 1};
        for (int size = 1; size <= 9; size += 4) {
            x.setNumber(Given.SIZE, size);
            for (int word = 0; word < due.length; word++) {
                Check.due("word " + word + ", SIZE " + size, x.word(word, 1), due[word] * size);
            }
        }
        x.setNumber(Given.SIZE, 1);
        Check.due("width of all", x.row(0, 4), 3 + 2 + 1 + 1 + 1 + 1 + 5 * 8);
        Check.due("place behind a word of 1", x.place(0, 8) - x.place(0, 6), 1 + 8);
        for (int cap : new int[] {1, 10}) {
            BoardLetters y = Check.loaded(Given.board(100, 100, 2, cap, 0, 8, 1) + Given.even('i', 1, 9, 9));
            Check.say(y, "iiiiiiiiiiii");
            for (int gap = 0; gap <= cap; gap++) {
                y.setNumber(Given.GAP, gap);
                Check.due("GAP " + gap + " of CAP " + cap, y.word(0, 1), 1);
            }
        }
    }

    /** Section 1: a pair has its own distance, which its letters have in this order alone. */
    private static void wordOfDifferentLetters() {
        BoardLetters x = Check.loaded(Given.board(100, 100, 2, 10, 3, 8, 1) + Given.even('a', 10, 0, 1) + Given.even('b', 20, 2, 4)
                + "pair a a wider 9;pair b b closer 9;pair b a wider 2;");
        Check.say(x, "ab ba aba a b");
        int[] due = {10 + 0 + 20, 20 - 1 + 2 + 10, 10 + 0 + 20 + 1 + 10, 10, 20};
        for (int word = 0; word < due.length; word++) {
            Check.due("word " + word, x.word(word, 1), due[word]);
        }
        for (int word = 0; word < 2; word++) {
            for (int k = 0; k < 2; k++) {
                Check.due("letter " + k + " of word " + word, x.spelled(word, k), (word + k) % 2);
            }
        }
        Check.due("letters of word 2", x.spelled(2, 0) * 100 + x.spelled(2, 1) * 10 + x.spelled(2, 2), 10);
        Check.due("letter of word 3", x.spelled(3, 0), 0);
        Check.due("letter of word 4", x.spelled(4, 0), 1);
    }

    /** Section 2: one letter has no distances. */
    private static void wordOfOneLetter() {
        BoardLetters x = Check.loaded(BOARD + Given.even('a', 1, 9, 9) + Given.even('b', 60, 0, 0) + "pair a a wider 9;pair b b closer 9;");
        Check.say(x, "a b");
        for (int gap = 0; gap <= 10; gap += 5) {
            x.setNumber(Given.GAP, gap);
            Check.due("WIDE 1", x.word(0, 1), 1);
            Check.due("WIDE 60", x.word(1, 1), 60);
        }
    }

    /** Section 2: "and WORD between two words, all this times SIZE". */
    private static void spacesStandBetweenWordsAlone() {
        int[] widths = {10, 30, 50, 70};
        for (int words = 1; words <= 4; words++) {
            BoardLetters x = Given.plain(Given.same(words, 1));
            Check.due(words + " words", x.row(0, 4), widths[words - 1]);
            x.setNumber(Given.WORD, 0);
            Check.due(words + " words without WORD", x.row(0, 4), 10 * words);
            x.setNumber(Given.INNER, 9999);
            x.setNumber(Given.WORD, 99);
            x.setNumber(Given.SIZE, 9);
            Check.due(words + " words with the greatest WORD", x.row(0, 4), (10 * words + 99 * (words - 1)) * 9);
        }
    }

    /** Section 2: "A row must not be wider than INNER". */
    private static void rowAsWideAsInner() {
        for (int how = 0; how < 2; how++) {
            BoardLetters x = Given.broken(how, 3, 2, 3);
            dueRows("as wide as INNER", x, "3");
            x.setNumber(Given.INNER, 99);
            dueRows("wider by 1", x, "2 1");
            x.setNumber(Given.INNER, 101);
            dueRows("1 to spare", x, "3");
            x.setNumber(Given.SIZE, 2);
            x.setNumber(Given.INNER, 200);
            dueRows("as wide as INNER by SIZE 2", x, "3");
            x.setNumber(Given.INNER, 199);
            dueRows("wider by 1 by SIZE 2", x, "2 1");
        }
    }

    /** Section 2: "unless it has one word alone". */
    private static void oneWordAloneMayBeWider() {
        for (int how = 0; how < 2; how++) {
            dueRows("first", Given.broken(how, 11, 1, 1), "1 2");
            dueRows("in the middle", Given.broken(how, 1, 11, 1), "1 1 1");
            dueRows("last", Given.broken(how, 1, 1, 11), "2 1");
            dueRows("all of them", Given.broken(how, 11, 12, 11), "1 1 1");
            BoardLetters x = Given.broken(how, 1, 12, 1);
            x.setNumber(Given.WORD, 0);
            x.setNumber(Given.INNER, 10);
            dueRows("without WORD", x, "1 1 1");
            x.setNumber(Given.INNER, 119);
            dueRows("still wider", x, "1 1 1");
            x.setNumber(Given.INNER, 129);
            dueRows("one word and less than two", x, "1 1 1");
            x.setNumber(Given.INNER, 130);
            dueRows("two words", x, "2 1");
        }
    }

    /** Section 2: "If BREAK is 0, each row takes as many words as it can". */
    private static void earlyRowsTakeAsManyAsTheyCan() {
        dueRows("with the fifth word 110", Given.broken(0, 1, 1, 1, 1, 3), "4 1");
        dueRows("with the fifth word 100", Given.broken(0, 1, 1, 1, 1, 2), "5");
        BoardLetters x = Given.plain(Given.same(30, 1));
        x.setNumber(Given.INNER, 10 * 30 + 10 * 29);
        dueRows("thirty words", x, "30");
        x.setNumber(Given.INNER, 10 * 30 + 10 * 29 - 1);
        dueRows("thirty words less 1", x, "29 1");
    }

    /** Section 2: "over all rows but the last one". */
    private static void lastRowCostsNothing() {
        BoardLetters x = Given.broken(1, 5, 4, 1);
        dueRows("the first row is full, whatever the last one lacks", x, "2 1");
        Check.due("cost", x.cost(), 0);
        x = Given.broken(1, 5);
        Check.due("the only row is the last one", x.cost(), 0);
        Check.due("its least cost", x.leastCost(), 0);
    }

    /** Section 2: "(0 for a row that is wider)". */
    private static void widerRowCostsNothing() {
        for (int how = 0; how < 2; how++) {
            BoardLetters x = Given.broken(how, 10, 1);
            int[] inners = {99, 100, 101, 102};
            int[] due = {0, 0, 1, 4};
            for (int i = 0; i < inners.length; i++) {
                x.setNumber(Given.INNER, inners[i]);
                Check.due("a row of 100 on " + inners[i], x.cost(), due[i]);
                Check.due("the least one on " + inners[i], x.leastCost(), due[i]);
            }
            x = Given.broken(how, 12, 1);
            x.setNumber(Given.INNER, 10);
            Check.due("much wider", x.cost(), 0);
        }
    }

    /** Section 2: "of several ways the one whose first row has the most words". */
    private static void firstRowHasTheMostWords() {
        // 90 and 40 or 40 and 90, both at 10 * 10 + 60 * 60
        dueRows("the same cost", Given.broken(1, 4, 4, 4, 9), "2 1 1");
        // 80 and 30 or 30 and 80
        dueRows("the same cost again", Given.broken(1, 3, 4, 3, 9), "2 1 1");
        // 90 ahead of 30 costs 100, and 40 and 70 ahead of 90 cost 4500, but 100 and 10 cost 8100
        dueRows("less cost by the most words", Given.broken(1, 1, 4, 2, 3), "3 1");
        dueRows("less cost by one word", Given.broken(1, 4, 5, 1, 9), "1 2 1");
        dueRows("all in one row", Given.broken(1, 1, 1, 1), "3");
    }

    /** Section 2: "then whose second one, and so on". */
    private static void laterRowsHaveTheMostWords() {
        dueRows("in the second row", Given.broken(1, 11, 4, 4, 4, 9), "1 2 1 1");
        dueRows("in the third row", Given.broken(1, 11, 12, 4, 4, 4, 9), "1 1 2 1 1");
        dueRows("in the first and in the fourth row", Given.broken(1, 4, 4, 4, 10, 4, 4, 4, 9), "2 1 1 2 1 1");
    }

    /** Section 2: "A text that makes more than 12 rows by BREAK 0 has no rows; likewise .. by BREAK 1." */
    private static void twelveRowsAndThirteen() {
        for (int how = 0; how < 2; how++) {
            dueRows("twelve rows", Given.broken(how, Given.same(12, 9)), "1 1 1 1 1 1 1 1 1 1 1 1");
            dueRows("thirteen rows", Given.broken(how, Given.same(13, 9)), "");
            dueRows("thirty rows", Given.broken(how, Given.same(30, 9)), "");
            dueRows("twelve wider rows", Given.broken(how, Given.same(12, 12)), "1 1 1 1 1 1 1 1 1 1 1 1");
            dueRows("thirteen wider rows", Given.broken(how, Given.same(13, 12)), "");
            dueRows("24 words, two a row", Given.broken(how, Given.same(24, 4)), "2 2 2 2 2 2 2 2 2 2 2 2");
            dueRows("25 words, two a row", Given.broken(how, Given.same(25, 4)), "");
            BoardLetters x = Given.broken(how, Given.same(13, 9));
            x.setNumber(Given.INNER, 190);
            dueRows("two a row then", x, "2 2 2 2 2 2 1");
            x.setNumber(Given.INNER, 189);
            dueRows("one a row again", x, "");
        }
    }

    /** Section 2: "(at most 12 rows)", where thirteen would cost less. */
    private static void twelveRowsAtHigherCost() {
        // behind the wider words, which cost nothing, seven rows of the others cost less than six
        int[] few = {12, 12, 12, 12, 12, 12, 2, 1, 8, 6, 3, 1, 7, 1, 1, 8, 1};
        BoardLetters x = Given.broken(1, few);
        dueRows("six words alone and six rows", x, "1 1 1 1 1 1 2 1 2 2 2 2");
        Check.due("its cost", x.cost(), 9000);
        x = Given.broken(1, java.util.Arrays.copyOfRange(few, 1, few.length));
        dueRows("five words alone and seven rows", x, "1 1 1 1 1 2 1 1 2 2 2 1");
        Check.due("its cost", x.cost(), 8200);
    }

    /** The same sentences on one object, whose texts become shorter and longer. */
    private static void rowsOfOneTextAfterAnother() {
        for (int how = 0; how < 2; how++) {
            BoardLetters x = Given.broken(how);
            int[] counts = {12, 13, 1, 30, 2, 13, 14, 11, 13, 12, 3, 13, 1};
            for (int count : counts) {
                Check.say(x, Given.words(Given.same(count, 9)));
                Check.due("rows of " + count, x.value(12), count > 12 ? 0 : count);
                Check.due("cost of " + count, x.cost(), count > 12 ? -2 : 100 * (count - 1));
                Check.due("least cost of " + count, x.leastCost(), count > 12 ? -2 : 100 * (count - 1));
            }
            Check.say(x, Given.words(4, 4, 4, 9));
            dueRows("four words", x, "2 1 1");
            Check.say(x, Given.words(4, 5, 1, 9));
            dueRows("four other words", x, how == 0 ? "2 1 1" : "1 2 1");
        }
    }

    /** Each promise's own words for a text that has no rows. */
    private static void whatIsAnsweredWithoutRows() {
        for (int how = 0; how < 2; how++) {
            for (boolean on : new boolean[] {false, true}) {
                BoardLetters x = Given.broken(how, Given.same(13, 9));
                x.setFill(on);
                Check.due("rows", x.value(12), 0);
                Check.due("words", x.value(11), 13);
                Check.due("row of a word", x.word(0, 2), -2);
                Check.due("place of a word", x.word(12, 3), -2);
                Check.due("width of a word", x.word(12, 1), 90);
                Check.due("letters of a word", x.word(12, 0), 9);
                Check.due("longest", x.longest(), 0);
                Check.due("row 0", x.row(0, 0), -1);
                Check.due("fullest", x.widest(true), -2);
                Check.due("emptiest", x.widest(false), -2);
                Check.dueTruth("fits", x.fits(), false);
                Check.due("height", x.height(), 0);
                Check.due("cost", x.cost(), -2);
                Check.due("least cost", x.leastCost(), -2);
                Check.due("best swap", x.bestSwap(), -2);
                Check.due("fillGap", x.fillGap(0), -1);
                Check.dueReal("full", x.full(0), -1f);
                Check.dueReal("mean gap", x.meanGap(), 0);
                Check.due("view", x.viewLength(), 0);
                Check.due("first byte of it", x.viewByte(0), -2);
            }
        }
    }

    /** Each promise's own words for a text without words. */
    private static void whatIsAnsweredWithoutWords() {
        for (int how = 0; how < 2; how++) {
            for (boolean on : new boolean[] {false, true}) {
                BoardLetters x = new BoardLetters();
                x.setBreak(how);
                x.setFill(on);
                Check.due("rows", x.value(12), 0);
                Check.due("letters", x.value(13), 0);
                Check.due("word 0", x.word(0, 0), -1);
                Check.due("letter of word 0", x.spelled(0, 0), -1);
                Check.due("longest", x.longest(), -2);
                Check.due("row 0", x.row(0, 0), -1);
                Check.due("fullest", x.widest(true), -2);
                Check.due("emptiest", x.widest(false), -2);
                Check.dueTruth("fits", x.fits(), true);
                Check.due("best size", x.bestSize(), 9);
                Check.due("best gap", x.bestGap(), 10);
                Check.due("least INNER", x.leastInner(12), -2);
                Check.due("height", x.height(), 0);
                Check.due("cost", x.cost(), -2);
                Check.due("least cost", x.leastCost(), -2);
                Check.due("best swap", x.bestSwap(), -2);
                Check.dueReal("mean gap", x.meanGap(), 0);
                Check.due("view", x.viewLength(), 0);
                Check.due("first byte of it", x.viewByte(0), -2);
            }
        }
    }

    // ---- section 3

    /** Section 3: "If FILL is off, each row has the gap GAP, and the spaces between its words are WORD times SIZE." */
    private static void unfilledRows() {
        BoardLetters x = Given.plain(2, 2, 3);
        dueRow(x, 0, 0, 3, 7, 2, 90, 5, 10, 10, 10);
        x.setNumber(Given.WORD, 0);
        dueRow(x, 0, 0, 3, 7, 2, 70, 15, 30, 0, 0);
        x.setNumber(Given.INNER, 9999);
        x.setNumber(Given.WORD, 99);
        x.setNumber(Given.SIZE, 9);
        dueRow(x, 0, 0, 3, 7, 2, (70 + 198) * 9, (9999 - 2412) / 2, 9999 - 2412, 891, 891);
    }

    /** Section 3: "the greatest gap from GAP to CAP with which it is not wider than INNER". */
    private static void filledRowAsWideAsInner() {
        // 40 for gap 2 and 3 more for each more
        BoardLetters x = Given.filled(4);
        int[] inners = {40, 42, 43, 44, 45, 46, 63, 64, 65};
        int[] due = {2, 2, 3, 3, 3, 4, 9, 10, 10};
        for (int i = 0; i < inners.length; i++) {
            x.setNumber(Given.INNER, inners[i]);
            Check.due("gap on " + inners[i], x.row(0, 3), due[i]);
            Check.due("fillGap on " + inners[i], x.fillGap(0), due[i]);
            Check.due("width on " + inners[i], x.row(0, 4), 40 + 3 * (due[i] - 2));
        }
        x.setFill(false);
        for (int i = 0; i < inners.length; i++) {
            x.setNumber(Given.INNER, inners[i]);
            Check.due("fillGap of the unfilled row on " + inners[i], x.fillGap(0), due[i]);
            Check.due("its gap", x.row(0, 3), 2);
        }
    }

    /** Section 3: "to CAP", which is the most also where there is more room. */
    private static void gapGrowsToCap() {
        BoardLetters x = Given.filled(2);
        Check.due("CAP", x.row(0, 3), 10);
        x.setNumber(Given.GAP, 10);
        Check.due("GAP is CAP", x.row(0, 3), 10);
        x.setNumber(Given.GAP, 0);
        Check.due("from 0 to CAP", x.row(0, 3), 10);
        x = Check.loaded(Given.board(100, 100, 2, 1, 0, 8, 1) + Given.even('a', 5, 1, 1));
        Check.say(x, "aa");
        x.setFill(true);
        Check.due("CAP 1", x.row(0, 3), 1);
        x = Check.loaded(Given.board(100, 100, 2, 30, 0, 8, 1) + Given.even('a', 5, 0, 0));
        Check.say(x, "aa");
        x.setFill(true);
        Check.due("CAP 30", x.row(0, 3), 30);
    }

    /** Section 3: "(GAP, if none is)", also where a lesser gap would be narrow enough. */
    private static void gapIsNotLessThanGap() {
        BoardLetters x = Given.filled(11);
        Check.due("110 for GAP 2", x.row(0, 3), 2);
        Check.due("fillGap", x.fillGap(0), 2);
        x.setNumber(Given.GAP, 1);
        Check.due("100 for GAP 1", x.row(0, 3), 1);
        x.setNumber(Given.GAP, 10);
        Check.due("190 for CAP", x.row(0, 3), 10);
        x.setFill(false);
        Check.due("fillGap of the unfilled row", x.fillGap(0), 10);
    }

    /** Section 3: "each row (the last one, too)". */
    private static void theLastRowIsFilledToo() {
        BoardLetters x = Given.filled(5, 4, 2, 2);
        dueRow(x, 0, 0, 2, 9, 2, 100, 0, 0, 10, 10);
        dueRow(x, 1, 2, 2, 4, 10, 100, 0, 0, 44, 44);
    }

    /** Section 3: "and the first ones by 1 more each, as many as are left over". */
    private static void whatIsLeftOverGoesToTheFirstSpaces() {
        // four words of one letter: 40, and three spaces of 10
        BoardLetters x = Given.filled(1, 1, 1, 1);
        int[][] due = {{10, 10, 10}, {11, 10, 10}, {11, 11, 10}, {11, 11, 11}, {12, 11, 11}, {12, 12, 11}, {12, 12, 12}};
        for (int lack = 0; lack < due.length; lack++) {
            x.setNumber(Given.INNER, 70 + lack);
            int place = 1000;
            for (int i = 0; i < 3; i++) {
                Check.due("place " + i + " with a lack of " + lack, x.place(0, i), place);
                place += 10 + due[lack][i];
            }
            Check.due("last place with a lack of " + lack, x.place(0, 3), place);
            Check.due("smallest space", x.row(0, 7), due[lack][2]);
            Check.due("greatest space", x.row(0, 8), due[lack][0]);
            Check.due("width", x.row(0, 4), 70 + lack);
            Check.due("lack", x.row(0, 6), 0);
        }
    }

    /** Section 3: in each row from its own first space on, and not behind FILL. */
    private static void whatIsLeftOverInALaterRow() {
        BoardLetters x = Given.filled(10, 1, 1, 1, 1);
        x.setNumber(Given.WORD, 11);
        // 73 and a lack of 27, then of 29
        dueRow(x, 1, 1, 4, 4, 10, 100, 0, 0, 20, 20);
        x.setNumber(Given.INNER, 102);
        dueRow(x, 1, 1, 4, 4, 10, 102, 0, 0, 20, 21);
        int[] due = {1000, 1031, 1062, 1092};
        for (int i = 0; i < 4; i++) {
            Check.due("place " + i, x.place(1, i), due[i]);
        }
        x.setFill(false);
        dueRow(x, 1, 1, 4, 4, 2, 73, 14, 29, 11, 11);
        for (int i = 0; i < 4; i++) {
            Check.due("place " + i + " without FILL", x.place(1, i), 1014 + 21 * i);
        }
    }

    /** Section 3: "divided by their number, cut", which may be 0. */
    private static void lackLessThanTheSpaces() {
        BoardLetters x = Given.filled(Given.same(30, 1));
        x.setNumber(Given.INNER, 590 + 28);
        dueRow(x, 0, 0, 30, 30, 10, 618, 0, 0, 10, 11);
        Check.due("ahead of the last space", x.place(0, 28), 1000 + 28 * 21);
        Check.due("behind the last space", x.place(0, 29), 1000 + 28 * 21 + 20);
        x.setNumber(Given.INNER, 590 + 29);
        dueRow(x, 0, 0, 30, 30, 10, 619, 0, 0, 11, 11);
        x.setNumber(Given.INNER, 590);
        dueRow(x, 0, 0, 30, 30, 10, 590, 0, 0, 10, 10);
        x = Given.filled(1, 1);
        x.setNumber(Given.INNER, 9999);
        dueRow(x, 0, 0, 2, 2, 10, 9999, 0, 0, 9979, 9979);
    }

    /** Promise 27: "(NOT_FOUND with one word)"; section 3: what it lacks then stays. */
    private static void oneWordHasNoSpaceToGrow() {
        dueRow(Given.plain(1), 0, 0, 1, 1, 2, 10, 45, 90, -2, -2);
        dueRow(Given.filled(1), 0, 0, 1, 1, 10, 10, 45, 90, -2, -2);
        dueRow(Given.filled(10), 0, 0, 1, 10, 2, 100, 0, 0, -2, -2);
        dueRow(Given.plain(1, 1), 0, 0, 2, 2, 2, 30, 35, 70, 10, 10);
    }

    /** Promise 27: what it lacks is "0 if it is wider", and FILL changes nothing of such a row. */
    private static void widerRowIsNotFilled() {
        for (boolean on : new boolean[] {false, true}) {
            BoardLetters x = Given.plain(11, 1);
            x.setFill(on);
            dueRow(x, 0, 0, 1, 11, 2, 110, 0, 0, -2, -2);
            x.setNumber(Given.INNER, 10);
            dueRow(x, 0, 0, 1, 11, 2, 110, 0, 0, -2, -2);
        }
        BoardLetters x = Given.plain(10);
        x.setNumber(Given.INNER, 101);
        Check.due("lack of 1", x.row(0, 6), 1);
        x.setNumber(Given.INNER, 99);
        Check.due("lack of a row wider by 1", x.row(0, 6), 0);
    }

    /** Section 3: "at half of what it then lacks to INNER, cut". */
    private static void startIsCut() {
        BoardLetters x = Given.plain(4);
        int[] inners = {40, 41, 42, 43, 9998, 9999};
        int[] due = {0, 0, 1, 1, 4979, 4979};
        for (int i = 0; i < inners.length; i++) {
            x.setNumber(Given.INNER, inners[i]);
            Check.due("start on " + inners[i], x.row(0, 5), due[i]);
            Check.due("place on " + inners[i], x.place(0, 0), 1000 + due[i]);
        }
    }

    /** Section 3: "(0 if it is wider)". */
    private static void startOfAWiderRow() {
        BoardLetters x = Given.plain(4);
        for (int inner : new int[] {39, 38, 37, 10}) {
            x.setNumber(Given.INNER, inner);
            Check.due("start on " + inner, x.row(0, 5), 0);
            Check.due("place on " + inner, x.place(0, 0), 1000);
        }
    }

    /** Section 3: places from the first letter of the first word to the last one of the last word. */
    private static void placesOfLetters() {
        BoardLetters x = Given.plain(2, 1, 3);
        int[] due = {1010, 1020, 1040, 1060, 1070, 1080, -2};
        for (int i = 0; i < due.length; i++) {
            Check.due("place " + i, x.place(0, i), due[i]);
        }
        x = Check.loaded(Given.board(10, 100, 2, 10, 0, 0, 9) + Given.even('i', 1, 9, 9));
        Check.say(x, "iiiiiiiiiiii");
        Check.due("far ahead of the start", x.place(0, 11), 1000 - 11 * 8 * 9);
        Check.due("width of the row", x.row(0, 4), 9);
    }

    // ---- words

    /** Promise 24: the first and the last word of a row. */
    private static void wordsOfARow() {
        BoardLetters x = Given.plain(4, 5, 1, 1, 9);
        int[][] due = {{0, 0}, {0, 1}, {1, 0}, {1, 1}, {2, 0}};
        for (int word = 0; word < due.length; word++) {
            Check.due("row of word " + word, x.word(word, 2), due[word][0]);
            Check.due("place of word " + word, x.word(word, 3), due[word][1]);
        }
    }

    /** Promise 24: "its width for GAP", also in a row that is filled. */
    private static void widthOfAWordIsForGap() {
        BoardLetters x = Given.filled(2, 1);
        Check.due("gap of the row", x.row(0, 3), 10);
        Check.due("for GAP", x.word(0, 1), 20);
        x.setNumber(Given.GAP, 10);
        Check.due("for CAP", x.word(0, 1), 28);
        x.setNumber(Given.GAP, 0);
        Check.due("for 0", x.word(0, 1), 11);
    }

    /** Promise 25: "NOT_FOUND if it has not so many letters". */
    private static void lettersOfAWord() {
        BoardLetters x = Given.plain(1, 12, 2);
        int[] lengths = {1, 12, 2};
        for (int word = 0; word < 3; word++) {
            Check.due("last letter of word " + word, x.spelled(word, lengths[word] - 1), 0);
            Check.due("behind word " + word, x.spelled(word, lengths[word]), -2);
            Check.due("far behind word " + word, x.spelled(word, Given.GREATEST_INT), -2);
        }
        Check.due("letter 12 of the word of 12", x.spelled(1, 12), -2);
        Check.due("letter 13 of it", x.spelled(1, 13), -2);
    }

    /** Promise 26: "of several the first one". */
    private static void longestOfSeveral() {
        Check.due("first of two", Given.plain(1, 3, 3, 2).longest(), 1);
        Check.due("all alike", Given.plain(2, 2, 2).longest(), 0);
        Check.due("last", Given.plain(1, 1, 2).longest(), 2);
        Check.due("one", Given.plain(1).longest(), 0);
        // 50 and 40 fill a row for gap 2, and 40 alone would be 64 for CAP
        Check.due("for GAP also if FILL is on", Given.filled(5, 4, 4).longest(), 0);
        // the width counts, not the number of letters
        BoardLetters x = Check.loaded(BOARD + Given.even('a', 60, 9, 9) + Given.even('d', 4, 1, 1));
        Check.say(x, "dddddddddddd dd a");
        Check.due("wide letter", x.longest(), 2);
        Check.say(x, "dd d dddddddddddd");
        Check.due("1 and 4 and 1", x.longest(), 1);
        Check.say(x, "dd dddddddddddd");
        Check.due("1 at least for both", x.longest(), 0);
        x.setNumber(Given.SIZE, 9);
        Check.due("whatever SIZE is", x.longest(), 0);
    }

    // ---- rows

    /** Promises 28 and 29: "NOT_FOUND if there are not so many". */
    private static void lettersOfARow() {
        BoardLetters x = Given.plain(4, 5, 1, 2);
        int[] letters = {9, 3};
        for (int row = 0; row < 2; row++) {
            Check.due("letters of row " + row, x.row(row, 2), letters[row]);
            Check.due("last letter of row " + row, x.letterAt(row, letters[row] - 1), 0);
            Check.dueTruth("last place of row " + row, x.place(row, letters[row] - 1) >= 1000, true);
            for (int i : new int[] {letters[row], letters[row] + 1, Given.GREATEST_INT}) {
                Check.due("letter " + i + " of row " + row, x.letterAt(row, i), -2);
                Check.due("place " + i + " of row " + row, x.place(row, i), -2);
                Check.due("gap " + i + " of row " + row, x.gap(row, i), -2);
                Check.due("white " + i + " of row " + row, x.white(row, i, 0), -2);
            }
        }
    }

    /** Promise 30: "NOT_FOUND if there is no next one in its word, or no such letter". */
    private static void gapsOfARow() {
        BoardLetters x = Given.plain(2, 1, 2);
        int[] due = {2, -2, -2, 2, -2, -2};
        for (int i = 0; i < due.length; i++) {
            Check.due("gap " + i, x.gap(0, i), due[i]);
            Check.due("white " + i, x.white(0, i, 5), due[i] == -2 ? -2 : 1002);
        }
        x.correct(0, 0, -9);
        Check.due("with its correction", x.gap(0, 0), 0);
        x.correct(0, 0, 9);
        Check.due("CAP at most", x.gap(0, 0), 10);
        Check.say(x, "aaaaaaaaaaaa a");
        Check.due("ahead of the twelfth letter", x.gap(0, 10), 10);
        Check.due("behind the twelfth letter", x.gap(0, 11), -2);
    }

    /** Promise 31: "NOT_FOUND if it has none". */
    private static void unevenAtItsEnds() {
        Check.due("words of one letter", Given.plain(1, 1, 1).uneven(0), -2);
        Check.due("one gap", Given.plain(1, 2, 1).uneven(0), 0);
        BoardLetters x = Check.loaded(BOARD + Given.even('a', 5, 0, 0) + Given.letter('o', 5, "open open open open open open", Given.side(0)));
        Check.say(x, "aao");
        // GAP 0: -9 makes a gap of 0, and of CAP where all is open
        Check.due("0 and CAP", x.uneven(0), 10);
        Check.say(x, "aoa");
        Check.due("CAP and 0", x.uneven(0), 10);
        Check.say(x, "aaa");
        Check.due("0 and 0", x.uneven(0), 0);
        Check.say(x, "ao");
        Check.due("CAP alone", x.uneven(0), 0);
        Check.say(x, "ao ao");
        Check.due("CAP in both words", x.uneven(0), 0);
        Check.say(x, "ao aa");
        Check.due("CAP and 0 in two words", x.uneven(0), 10);
    }

    /** Promise 32: "times SIZE, plus 1000", where it is 0, above it and below it. */
    private static void whiteAtItsEnds() {
        BoardLetters x = Check.loaded(Given.board(9999, 100, 2, 30, 0, 8, 9) + Given.even('a', 60, 0, 0) + Given.even('b', 60, 9, 9));
        Check.say(x, "aa bb ab");
        int[] least = {-9, 9, 0};
        for (int word = 0; word < 3; word++) {
            for (int band = 0; band < 6; band++) {
                Check.due("GAP 0, word " + word + ", band " + band, x.white(0, 2 * word, band), 1000 + 9 * least[word]);
            }
        }
        x.setNumber(Given.GAP, 30);
        for (int word = 0; word < 3; word++) {
            Check.due("GAP 30, word " + word, x.white(0, 2 * word, 0), 1000 + 9 * 30);
        }
        x.correct(0, 0, 9);
        Check.due("beyond CAP", x.white(0, 0, 5), 1000 + 9 * 39);
    }

    /** Promise 32: "or one of both is open there". */
    private static void whiteOfOpenBands() {
        for (int band = 0; band < 6; band++) {
            String side = Given.side(band, "open", "0");
            BoardLetters x = Check.loaded(BOARD + Given.even('a', 5, 0, 0) + Given.letter('b', 5, Given.side(0), side) + Given.letter('c', 5, side, Given.side(0)));
            Check.say(x, "aa ba ac bc cb");
            boolean[] open = {false, true, true, true, false};
            for (int word = 0; word < 5; word++) {
                for (int other = 0; other < 6; other++) {
                    boolean due = open[word] && other == band;
                    Check.due("word " + word + ", band " + other, x.white(0, 2 * word, other), due ? -2 : 1000 - 9);
                }
            }
        }
    }

    /** Promise 33: "0 or less", and none behind the last letter of a word. */
    private static void touchesAtItsEnds() {
        BoardLetters x = Given.plain(1, 1);
        Check.due("no next letters", x.touches(0), 0);
        x = Given.plain(3, 1, 2);
        int[] corrections = {-1, -2, -3, -9, 9};
        int[] due = {0, 3, 3, 3, 0};
        for (int i = 0; i < due.length; i++) {
            x.correct(0, 0, corrections[i]);
            Check.due("white of " + (2 + corrections[i]), x.touches(0), due[i]);
        }
        x = Check.loaded(BOARD + Given.letter('a', 5, Given.side(0), "open open open open open open") + Given.letter('b', 5, "0 0 0 0 0 9", "open open open open open 0"));
        Check.say(x, "aa ab");
        Check.due("open bands alone", x.touches(0), 0);
        Check.say(x, "bb");
        Check.due("one band, 9 - 9", x.touches(0), 1);
        x.correct(1, 1, 1);
        Check.due("one band, 9 - 8", x.touches(0), 0);
        for (int band = 0; band < 6; band++) {
            // 9 and 9 in five bands, which -9 leaves 9 apart, and 9 and 0 in the other one
            BoardLetters y = Check.loaded(BOARD + Given.letter('a', 5, Given.side(band, "0", "9"), Given.side(9)));
            Check.say(y, "aaa a");
            Check.due("0 in band " + band, y.touches(0), 2);
            y.correct(0, 0, 1);
            Check.due("1 in band " + band, y.touches(0), 0);
        }
    }

    /** Promise 34: "of several the first one". */
    private static void widestOfSeveral() {
        BoardLetters x = Given.plain(9, 9, 9);
        Check.due("fullest of rows alike", x.widest(true), 0);
        Check.due("emptiest of rows alike", x.widest(false), 0);
        x = Given.plain(7, 9, 6, 9, 6, 8);
        Check.due("fullest", x.widest(true), 1);
        Check.due("emptiest", x.widest(false), 2);
        x = Given.plain(8, 7, 6, 9);
        Check.due("fullest is the last one", x.widest(true), 3);
        x = Given.plain(8, 7, 9, 6);
        Check.due("emptiest is the last one", x.widest(false), 3);
        x = Given.plain(1);
        Check.due("fullest of one", x.widest(true), 0);
        Check.due("emptiest of one", x.widest(false), 0);
    }

    /** Promise 34: "with its spaces as they are". */
    private static void widestOfFilledRows() {
        // 90 and 10, and 40, 10 and 10 in a row that is filled; 100 alone
        BoardLetters x = Given.plain(9, 4, 1, 10);
        Check.due("fullest", x.widest(true), 2);
        Check.due("emptiest", x.widest(false), 1);
        x.setFill(true);
        Check.due("fullest, filled", x.widest(true), 1);
        Check.due("emptiest, filled", x.widest(false), 0);
    }

    /** Promise 35: "its place is not greater, and its place plus WIDE times SIZE is greater". */
    private static void edgesOfLetters() {
        BoardLetters x = Given.plain(1, 1);
        x.setNumber(Given.SIZE, 2);
        // 20 and 20 with 20 between, from 20 on
        int[] places = {0, 19, 20, 39, 40, 59, 60, 79, 80, 9999};
        int[] due = {-2, -2, 0, 0, -2, -2, 1, 1, -2, -2};
        for (int i = 0; i < due.length; i++) {
            Check.due("at " + places[i], x.at(0, places[i]), due[i]);
        }
        for (int wrong : new int[] {-1, 10000, Given.LEAST_INT, Given.GREATEST_INT}) {
            Check.due("at " + wrong, x.at(0, wrong), -1);
        }
    }

    /** Promise 35: "the first letter whose edges hold it". */
    private static void firstOfTheLettersThatHoldAPlace() {
        BoardLetters x = Given.plain(3);
        x.setNumber(Given.GAP, 0);
        // 10 wide and 1 apart
        x.setNumber(Given.INNER, 12);
        int[] due = {0, 0, 1, 2, -2};
        int[] places = {0, 9, 10, 11, 12};
        for (int i = 0; i < due.length; i++) {
            Check.due("at " + places[i], x.at(0, places[i]), due[i]);
        }
        BoardLetters y = Check.loaded(Given.board(9999, 100, 2, 30, 30, 99, 1) + Given.even('m', 60, 0, 0) + "pair m m wider 9;");
        Check.say(y, "mmmmmmmmmmmm ".repeat(8));
        y.setFill(true);
        Check.due("the last place of all", y.at(0, 9998), 95);
        Check.due("behind it", y.at(0, 9999), -2);
    }
}
