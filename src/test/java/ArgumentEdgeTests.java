/** Section 5: which arguments are valid, on both sides of the ends of each range, and what is checked first. */
final class ArgumentEdgeTests {
    private static final String BOARD = Given.board(100, 100, 2, 10, 2, 10, 1);
    private static final int NOT_INVALID = 1;

    public static void main(String[] args) {
        lettersAtTheirEnds();
        lettersThatAreNotTold();
        lettersOfAnEarlierSetup();
        secondLettersAtTheirEnds();
        rowsAtTheirEnds();
        rowsOfAnEarlierText();
        lettersOfRowsAreNumberedOverAllWords();
        wordsAtTheirEnds();
        whatsAtTheirEnds();
        bandsAtTheirEnds();
        placesAndBytesAtTheirEnds();
        numbersOfRowsAtTheirEnds();
        invalidAheadOfSoAlready();
        invalidAheadOfAnEmptySlot();
        invalidAheadOfNoRows();
        invalidAheadOfNoWords();
        invalidAheadOfNotSoMany();
        invalidAheadOfOpenBands();
        Check.finish("ArgumentEdgeTests");
    }

    /** 1 for an answer that is not INVALID, for calls where it does not matter here which one it is. */
    private static int valid(int answer) {
        return answer == -1 ? -1 : NOT_INVALID;
    }

    private static void dueLetter(BoardLetters x, int letter, int due) {
        Check.due("inset of " + letter, valid(x.inset(letter, true, 0)), due);
        for (int what = 0; what < 5; what++) {
            Check.due("letter " + letter + ", " + what, valid(x.letter(letter, what)), due);
        }
        Check.due("gapAt of " + letter, valid(x.gapAt(letter, letter, 0)), due);
        Check.due("distance of " + letter, valid(x.distance(letter, letter, 0)), due);
        Check.due("correction of " + letter, valid(x.correction(letter, letter)), due);
        Check.dueTruth("mirrored " + letter, x.mirrored(letter), due == NOT_INVALID);
        Check.due("alike " + letter, valid(x.alike(letter, true)), due);
        Check.due("bestCorrection of " + letter, valid(x.bestCorrection(letter, letter)), due);
        Check.due("correct " + letter, valid(x.correct(letter, letter, 1)), due);
    }

    /** Section 5: "A letter argument is 0 to 25 (a to z)". */
    private static void lettersAtTheirEnds() {
        BoardLetters x = Check.loaded(BOARD + Given.even('a', 10, 1, 1) + Given.even('z', 10, 1, 1));
        dueLetter(x, 0, NOT_INVALID);
        dueLetter(x, 25, NOT_INVALID);
        for (int letter : new int[] {-1, 26, -26, 51, 'a', 'z', Given.LEAST_INT, Given.GREATEST_INT}) {
            dueLetter(x, letter, -1);
        }
    }

    /** Section 5: "and valid if it is told". */
    private static void lettersThatAreNotTold() {
        BoardLetters x = Check.loaded(BOARD + Given.even('m', 10, 1, 1));
        for (int letter = 0; letter < 26; letter++) {
            dueLetter(x, letter, letter == 'm' - 'a' ? NOT_INVALID : -1);
        }
        dueLetter(new BoardLetters(), 0, NOT_INVALID);
        dueLetter(new BoardLetters(), 1, -1);
    }

    private static void lettersOfAnEarlierSetup() {
        BoardLetters x = Check.loaded(BOARD + Given.even('a', 10, 1, 1) + Given.even('b', 10, 1, 1));
        Check.load(x, BOARD + Given.even('b', 10, 1, 1));
        dueLetter(x, 0, -1);
        dueLetter(x, 1, NOT_INVALID);
        Check.due("a in a text", Check.say(x, "a"), -1);
        Check.due("b in a text", Check.say(x, "b"), 1);
        Check.due("refused", Check.load(x, BOARD + Given.even('a', 10, 1, 1) + "pair"), -1);
        dueLetter(x, 0, -1);
    }

    /** Each of two letters by itself. */
    private static void secondLettersAtTheirEnds() {
        BoardLetters x = Check.loaded(BOARD + Given.even('a', 10, 1, 1) + Given.even('z', 10, 1, 1));
        for (int other : new int[] {-1, 26, 1, 24, Given.LEAST_INT, Given.GREATEST_INT}) {
            for (int told : new int[] {0, 25}) {
                Check.due("gapAt", x.gapAt(told, other, 0) * 10 + x.gapAt(other, told, 0), -11);
                Check.due("distance", x.distance(told, other, 0) * 10 + x.distance(other, told, 0), -11);
                Check.due("correction", x.correction(told, other) * 10 + x.correction(other, told), -11);
                Check.due("bestCorrection", x.bestCorrection(told, other) * 10 + x.bestCorrection(other, told), -11);
                Check.due("correct", x.correct(told, other, 1) * 10 + x.correct(other, told, 1), -11);
            }
        }
        Check.due("a z", valid(x.gapAt(0, 25, 0)) + valid(x.distance(0, 25, 0)) + valid(x.correction(0, 25)) + valid(x.correct(0, 25, 1)), 4);
        Check.due("z a", valid(x.gapAt(25, 0, 0)) + valid(x.distance(25, 0, 0)) + valid(x.correction(25, 0)) + valid(x.correct(25, 0, 1)), 4);
    }

    private static void dueRow(BoardLetters x, int row, int due) {
        for (int what = 0; what < 9; what++) {
            Check.due("row " + row + ", " + what, valid(x.row(row, what)), due);
        }
        Check.due("letterAt of row " + row, valid(x.letterAt(row, 0)), due);
        Check.due("place of row " + row, valid(x.place(row, 0)), due);
        Check.due("gap of row " + row, valid(x.gap(row, 0)), due);
        Check.due("uneven of row " + row, valid(x.uneven(row)), due);
        Check.due("white of row " + row, valid(x.white(row, 0, 0)), due);
        Check.due("touches of row " + row, valid(x.touches(row)), due);
        Check.due("at of row " + row, valid(x.at(row, 0)), due);
        Check.due("fillGap of row " + row, valid(x.fillGap(row)), due);
        Check.dueTruth("full of row " + row, x.full(row) == -1f, due == -1);
    }

    /** Section 5: "A row argument is valid if there is such a row". */
    private static void rowsAtTheirEnds() {
        for (int rows : new int[] {1, 2, 12}) {
            BoardLetters x = Given.plain(Given.same(rows, 9));
            dueRow(x, 0, NOT_INVALID);
            dueRow(x, rows - 1, NOT_INVALID);
            for (int row : new int[] {-1, rows, rows + 1, Given.LEAST_INT, Given.GREATEST_INT}) {
                dueRow(x, row, -1);
            }
        }
        for (int row : new int[] {-1, 0, 1, 12}) {
            dueRow(Given.plain(), row, -1);
            dueRow(Given.thirteenRows(), row, -1);
        }
    }

    private static void rowsOfAnEarlierText() {
        BoardLetters x = Given.plain(9, 9, 9);
        dueRow(x, 2, NOT_INVALID);
        Check.say(x, "aaa aa");
        dueRow(x, 0, NOT_INVALID);
        dueRow(x, 1, -1);
        Check.say(x, "");
        dueRow(x, 0, -1);
        x.undo();
        dueRow(x, 0, NOT_INVALID);
    }

    /** Section 5: "the letters of a row are numbered from 0 in their order, over all its words". */
    private static void lettersOfRowsAreNumberedOverAllWords() {
        BoardLetters x = Check.loaded(BOARD + Given.even('a', 10, 1, 1) + Given.even('b', 10, 1, 1) + Given.even('c', 10, 1, 1));
        Check.say(x, "ab c ba cccc bcb");
        int[][] due = {{0, 1, 2, 1, 0, -2}, {2, 2, 2, 2, 1, 2, 1, -2}};
        for (int row = 0; row < 2; row++) {
            for (int i = 0; i < due[row].length; i++) {
                Check.due("letter " + i + " of row " + row, x.letterAt(row, i), due[row][i]);
            }
        }
    }

    /** Promises 11, 24 and 25: the index of a word, from 0. */
    private static void wordsAtTheirEnds() {
        for (int words : new int[] {1, 2, 30}) {
            BoardLetters x = Given.plain(Given.same(words, 1));
            for (int word : new int[] {0, words - 1}) {
                for (int what = 0; what < 4; what++) {
                    Check.due("word " + word, valid(x.word(word, what)), NOT_INVALID);
                }
                Check.due("letter of word " + word, x.spelled(word, 0), 0);
                Check.due("swap with word " + word, valid(x.swap(word, word == 0 ? words - 1 : 0)), words == 1 ? -1 : NOT_INVALID);
            }
            for (int word : new int[] {-1, words, Given.LEAST_INT, Given.GREATEST_INT}) {
                for (int what = 0; what < 4; what++) {
                    Check.due("word " + word, x.word(word, what), -1);
                }
                Check.due("letter of word " + word, x.spelled(word, 0), -1);
                Check.due("swap with word " + word, x.swap(word, 0) * 10 + x.swap(0, word), -11);
            }
        }
    }

    /** Promises 15, 17, 24 and 27: INVALID for any other what. */
    private static void whatsAtTheirEnds() {
        BoardLetters x = Given.plain(2, 1);
        int[] values = {100, 100, 2, 2, 10, 1, 10, 0, 0, 1, 0, 2, 1, 3};
        for (int what = -2; what < 17; what++) {
            Check.due("value " + what, x.value(what), what >= 0 && what < 14 ? values[what] : -1);
            Check.due("letter, " + what, valid(x.letter(0, what)), what >= 0 && what < 5 ? NOT_INVALID : -1);
            Check.due("word, " + what, valid(x.word(0, what)), what >= 0 && what < 4 ? NOT_INVALID : -1);
            Check.due("row, " + what, valid(x.row(0, what)), what >= 0 && what < 9 ? NOT_INVALID : -1);
        }
        for (int what : new int[] {Given.LEAST_INT, Given.GREATEST_INT}) {
            Check.due("all of " + what, x.value(what) + x.letter(0, what) + x.word(0, what) + x.row(0, what), -4);
        }
    }

    /** Promises 16 and 32: "0 to 5, from above". */
    private static void bandsAtTheirEnds() {
        BoardLetters x = Check.loaded(BOARD + Given.letter('a', 10, "0 1 2 3 4 5", "5 6 7 8 9 0"));
        Check.say(x, "aa");
        int[] right = {5, 6, 7, 8, 9, 0};
        int distance = x.distance(0, 0, 2) - 9;
        for (int band = 0; band < 6; band++) {
            Check.due("left inset", x.inset(0, false, band), band);
            Check.due("right inset", x.inset(0, true, band), right[band]);
            Check.due("white", x.white(0, 0, band), 1000 + right[band] + distance + band);
        }
        for (int band : new int[] {-1, 6, 7, 12, Given.LEAST_INT, Given.GREATEST_INT}) {
            Check.due("left inset", x.inset(0, false, band), -1);
            Check.due("right inset", x.inset(0, true, band), -1);
            Check.due("white", x.white(0, 0, band), -1);
        }
    }

    /** Promises 35, 49 and 51. */
    private static void placesAndBytesAtTheirEnds() {
        BoardLetters x = Given.plain(1);
        Check.due("at 0", x.at(0, 0), -2);
        Check.due("at 9999", x.at(0, 9999), -2);
        Check.due("at -1", x.at(0, -1), -1);
        Check.due("at 10000", x.at(0, 10000), -1);
        Check.due("viewByte 0", x.viewByte(0), '4');
        Check.due("viewByte -1", x.viewByte(-1), -1);
        Check.due("setupByte 0", x.setupByte(0), 'b');
        Check.due("setupByte -1", x.setupByte(-1), -1);
    }

    /** Promise 39: "1 to 12". */
    private static void numbersOfRowsAtTheirEnds() {
        BoardLetters x = Given.plain(1);
        for (int rows = -1; rows < 15; rows++) {
            Check.due("leastInner " + rows, x.leastInner(rows), rows >= 1 && rows <= 12 ? 10 : -1);
        }
    }

    // ---- "this is checked before any other special result"

    private static void invalidAheadOfSoAlready() {
        BoardLetters x = new BoardLetters();
        Check.due("a pair that is not told has no correction", x.correct(0, 1, 0), -1);
        Check.due("the other way", x.correct(1, 0, 0), -1);
        Check.due("both", x.correct(1, 1, 0), -1);
        Check.due("CAP is 10 already", x.setNumber(6, 10), -1);
        Check.due("BREAK is 0 already, FILL is off", x.setNumber(7, 0), -1);
    }

    private static void invalidAheadOfAnEmptySlot() {
        BoardLetters x = new BoardLetters();
        Check.due("slot 2", x.restore(2), -1);
        Check.due("slot -1", x.restore(-1), -1);
        Check.due("slot 0", x.restore(0), -2);
    }

    private static void invalidAheadOfNoRows() {
        BoardLetters x = Given.thirteenRows();
        for (int what = 2; what < 4; what++) {
            Check.due("word 12, " + what, x.word(12, what), -2);
            Check.due("word 13, " + what, x.word(13, what), -1);
            Check.due("word -1, " + what, x.word(-1, what), -1);
        }
        Check.due("word 0, 4", x.word(0, 4), -1);
        Check.due("word 0, -1", x.word(0, -1), -1);
        Check.due("row 0", x.row(0, 7), -1);
        Check.due("letter of row 0", x.letterAt(0, 0), -1);
        Check.due("leastInner 0", x.leastInner(0), -1);
        Check.due("swap of one word", x.swap(0, 0), -1);
        Check.due("viewByte -1", x.viewByte(-1), -1);
        Check.due("viewByte 0", x.viewByte(0), -2);
    }

    private static void invalidAheadOfNoWords() {
        BoardLetters x = new BoardLetters();
        Check.due("leastInner 0", x.leastInner(0), -1);
        Check.due("leastInner 13", x.leastInner(13), -1);
        Check.due("leastInner 1", x.leastInner(1), -2);
        Check.due("spelled 0, 0", x.spelled(0, 0), -1);
        Check.due("word 0, 2", x.word(0, 2), -1);
        Check.due("uneven 0", x.uneven(0), -1);
    }

    private static void invalidAheadOfNotSoMany() {
        BoardLetters x = Given.plain(1);
        Check.due("no such word, and letter 99", x.spelled(1, 99), -1);
        Check.due("letter -1", x.spelled(0, -1), -1);
        Check.due("one word has no spaces", x.row(0, 7) * 10 + x.row(0, 8), -22);
        Check.due("row 0, 9", x.row(0, 9), -1);
        Check.due("row 1, 7", x.row(1, 7), -1);
        Check.due("no such row, and letter 99", x.letterAt(1, 99), -1);
        Check.due("letterAt -1", x.letterAt(0, -1), -1);
        Check.due("no such row, and place 99", x.place(1, 99), -1);
        Check.due("place -1", x.place(0, -1), -1);
        Check.due("no such row, and gap 99", x.gap(1, 99), -1);
        Check.due("gap -1", x.gap(0, -1), -1);
        Check.due("no gap at all", x.uneven(0), -2);
        Check.due("no such row, and no gap", x.uneven(1), -1);
        Check.due("no such row, and white 99", x.white(1, 99, 0), -1);
        Check.due("white -1", x.white(0, -1, 0), -1);
        Check.due("white of the last letter in band 6", x.white(0, 0, 6), -1);
        Check.due("white of the last letter in band -1", x.white(0, 0, -1), -1);
        Check.due("white of letter 99 in band 6", x.white(0, 99, 6), -1);
        Check.due("white of letter 99 in band 0", x.white(0, 99, 0), -2);
        Check.due("no letter at 10000", x.at(0, 10000), -1);
        Check.due("no such row, and no letter at 9999", x.at(1, 9999), -1);
        Check.due("no byte -1", x.setupByte(-1), -1);
    }

    private static void invalidAheadOfOpenBands() {
        String open = "open open open open open open";
        BoardLetters x = Check.loaded(BOARD + Given.letter('a', 10, open, open));
        Check.say(x, "aa");
        Check.due("open", x.inset(0, true, 5), -2);
        Check.due("band 6", x.inset(0, true, 6), -1);
        Check.due("band -1", x.inset(0, false, -1), -1);
        Check.due("not told", x.inset(1, false, 0), -1);
        Check.due("open between", x.white(0, 0, 5), -2);
        Check.due("band 6 between", x.white(0, 0, 6), -1);
        Check.due("row 1", x.white(1, 0, 0), -1);
    }
}
