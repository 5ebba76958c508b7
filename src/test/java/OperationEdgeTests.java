/** The boundary cases of section 5 and of promises 7 to 14: operations, slots and undo. */
final class OperationEdgeTests {
    private static final int MOST_UNDONE = 8;

    public static void main(String[] args) {
        numbersAtTheirEnds();
        numbersThatAreNone();
        gapIsAtMostCap();
        soAlready();
        correctionsAtTheirEnds();
        breakAtItsEnds();
        swapOfTheFirstAndTheLastWord();
        swapOfOneWord();
        swapReturnsRows();
        slotsAtTheirEnds();
        emptySlots();
        slotOfNoWords();
        slotKeepsAll();
        slotIsReplaced();
        slotStaysAfterRestore();
        nothingToUndo();
        eightOperationsAndNine();
        manyOperations();
        operationsThatReturnZero();
        refusedCallsAreNoOperations();
        callsThatAreNoOperations();
        restoreOfTheSameIsAnOperation();
        undoLeavesTheSlots();
        undoLeavesTheTape();
        undoLeavesTheErrorPosition();
        undoneOperationsAreGone();
        loadForgetsOperationsAndSlots();
        refusedLoadForgetsNothing();
        Check.finish("OperationEdgeTests");
    }

    private static void dueOperations(String about, BoardLetters x, int due) {
        int count = 0;
        while (count <= MOST_UNDONE && x.undo() >= 0) {
            count++;
        }
        Check.due("operations, " + about, count, due);
    }

    // ---- the operations

    /** Promise 7: "a number in its range"; section 2 tells the ranges. */
    private static void numbersAtTheirEnds() {
        int[] least = {10, 1, 0, 0, 0, 1};
        int[] most = {9999, 9999, 99, 10, 99, 9};
        for (int what = 0; what < 6; what++) {
            BoardLetters x = new BoardLetters();
            int earlier = x.value(what);
            for (int v : new int[] {least[what] - 1, most[what] + 1, Given.LEAST_INT, Given.GREATEST_INT, -1, 10000}) {
                Check.due("number " + what + " to " + v, x.setNumber(what, v), -1);
                Check.due("number " + what, x.value(what), earlier);
            }
            dueOperations("numbers out of range", x, 0);
            for (int v : new int[] {least[what], most[what]}) {
                x = new BoardLetters();
                Check.due("number " + what + " to " + v, x.setNumber(what, v), v == earlier ? -2 : earlier);
                Check.due("number " + what, x.value(what), v);
            }
        }
    }

    /** Promise 7: 0 to 5, and CAP is none of them. */
    private static void numbersThatAreNone() {
        BoardLetters x = new BoardLetters();
        for (int what : new int[] {-1, 6, 7, 13, Given.LEAST_INT, Given.GREATEST_INT}) {
            for (int v : new int[] {0, 1, 10, Given.LEAST_INT, Given.GREATEST_INT}) {
                Check.due("number " + what, x.setNumber(what, v), -1);
            }
        }
        dueOperations("numbers that are none", x, 0);
    }

    /** Section 1: "a gap T (0 to CAP)". */
    private static void gapIsAtMostCap() {
        for (int cap : new int[] {1, 2, 29, 30}) {
            BoardLetters x = Check.loaded(Given.board(100, 100, 2, cap, 0, 8, 1) + Given.even('a', 10, 1, 1));
            Check.due("GAP above CAP " + cap, x.setNumber(Given.GAP, cap + 1), -1);
            Check.due("GAP of CAP " + cap, x.setNumber(Given.GAP, cap), 0);
            Check.due("GAP below 0", x.setNumber(Given.GAP, -1), -1);
            Check.due("GAP of 0", x.setNumber(Given.GAP, 0), cap);
        }
    }

    /** Promises 7 to 10: "NOT_FOUND if it is so already", on both sides of it. */
    private static void soAlready() {
        BoardLetters x = new BoardLetters();
        for (int what = 0; what < 6; what++) {
            int v = x.value(what);
            Check.due("number " + what + " so already", x.setNumber(what, v), -2);
            Check.due("number " + what + " 1 more", x.setNumber(what, v + 1), v);
            Check.due("number " + what + " so then", x.setNumber(what, v + 1), -2);
            Check.due("number " + what + " back", x.setNumber(what, v), v + 1);
        }
        Check.due("correction so already", x.correct(0, 0, 0), -2);
        Check.due("correction of 1", x.correct(0, 0, 1), 9);
        Check.due("correction so then", x.correct(0, 0, 1), -2);
        Check.due("BREAK so already", x.setBreak(0), -2);
        Check.due("BREAK 1", x.setBreak(1), 0);
        Check.due("BREAK so then", x.setBreak(1), -2);
        Check.due("BREAK 0", x.setBreak(0), 1);
        Check.due("FILL off already", x.setFill(false), -2);
        Check.due("FILL on", x.setFill(true), 1);
        Check.due("FILL on already", x.setFill(true), -2);
        Check.due("FILL off", x.setFill(false), 1);
        Check.due("FILL off then", x.setFill(false), -2);
    }

    /** Promise 8: "-9 to 9". */
    private static void correctionsAtTheirEnds() {
        BoardLetters x = Check.loaded(Given.board(100, 100, 2, 10, 3, 8, 1) + Given.even('a', 5, 1, 1) + Given.even('z', 5, 1, 1));
        for (int pair = 0; pair < 4; pair++) {
            int a = 25 * (pair / 2);
            int b = 25 * (pair % 2);
            for (int v : new int[] {-10, 10, Given.LEAST_INT, Given.GREATEST_INT}) {
                Check.due("correction of " + v, x.correct(a, b, v), -1);
            }
            Check.due("stays", x.correction(a, b), 9);
            Check.due("-9", x.correct(a, b, -9), 9);
            Check.due("from -9 to 9", x.correct(a, b, 9), 0);
            Check.due("from 9 to 0", x.correct(a, b, 0), 18);
            Check.due("the others stay", x.value(10), 0);
        }
    }

    /** Promise 9: "0 or 1". */
    private static void breakAtItsEnds() {
        BoardLetters x = new BoardLetters();
        for (int now = 0; now < 2; now++) {
            for (int how : new int[] {-1, 2, Given.LEAST_INT, Given.GREATEST_INT}) {
                Check.due("BREAK " + how, x.setBreak(how), -1);
                Check.due("stays", x.value(7), now);
            }
            x.setBreak(1);
        }
        dueOperations("one to BREAK 1", x, 1);
    }

    /** Promise 11: "the index of a word, from 0". */
    private static void swapOfTheFirstAndTheLastWord() {
        int[] text = Given.same(30, 1);
        text[0] = 12;
        text[29] = 2;
        BoardLetters x = Given.plain(text);
        Check.due("word 30", x.swap(0, 30), -1);
        Check.due("the other way", x.swap(30, 0), -1);
        Check.due("-1", x.swap(-1, 29), -1);
        Check.due("the other way", x.swap(29, -1), -1);
        Check.due("least and greatest int", x.swap(Given.LEAST_INT, Given.GREATEST_INT), -1);
        Check.due("first stays", x.word(0, 0), 12);
        Check.dueTruth("first and last", x.swap(29, 0) > 0, true);
        Check.due("first", x.word(0, 0), 2);
        Check.due("last", x.word(29, 0), 12);
        Check.due("letters of the last one", x.spelled(29, 11), 0);
        Check.due("letters of the first one", x.spelled(0, 2), -2);
        Check.dueTruth("and back", x.swap(0, 29) > 0, true);
        Check.due("first again", x.word(0, 0), 12);
        BoardLetters y = Check.loaded(Given.board(9999, 100, 2, 10, 2, 10, 1) + Given.even('a', 10, 1, 1) + Given.even('b', 10, 1, 1));
        Check.say(y, "ab bbbbbbbbbbbb a b aa ba");
        y.swap(5, 1);
        y.swap(0, 2);
        Check.dueText("words", Check.view(y).substring(5), "a ba ab b aa bbbbbbbbbbbb 2\n");
        Check.due("letters b", y.letter(1, 4), 1 + 1 + 1 + 12);
    }

    /** Promise 11: "or the same word". */
    private static void swapOfOneWord() {
        BoardLetters x = Given.plain(3, 3);
        for (int i : new int[] {0, 1, 2, -1, Given.LEAST_INT, Given.GREATEST_INT}) {
            Check.due("word " + i + " with itself", x.swap(i, i), -1);
        }
        Check.due("words that are spelled alike", x.swap(0, 1), 1);
        x = Given.plain(3);
        Check.due("the only word", x.swap(0, 0), -1);
        Check.due("the only word and none", x.swap(0, 1), -1);
        Check.due("no words", Given.plain().swap(0, 1), -1);
    }

    /** Promise 11: "the number of rows then", which may be 0. */
    private static void swapReturnsRows() {
        for (int how = 0; how < 2; how++) {
            Check.due("one row", Given.broken(how, 1, 2).swap(0, 1), 1);
            Check.due("three rows to two", Given.broken(how, 5, 9, 4).swap(1, 2), 2);
            Check.due("two rows to three", Given.broken(how, 5, 4, 9).swap(1, 2), 3);
            int[] text = Given.same(13, 9);
            text[0] = 5;
            text[1] = 4;
            Check.due("twelve rows to none", Given.broken(how, text).swap(1, 12), 0);
            BoardLetters x = Given.broken(how, text);
            x.swap(1, 12);
            Check.due("none to twelve", x.swap(1, 12), 12);
        }
    }

    // ---- the slots

    /** Promises 12 and 13: "0 or 1". */
    private static void slotsAtTheirEnds() {
        BoardLetters x = Given.plain(1, 2);
        for (int slot : new int[] {-1, 2, Given.LEAST_INT, Given.GREATEST_INT}) {
            Check.due("keep " + slot, x.keep(slot), -1);
            Check.due("restore " + slot, x.restore(slot), -1);
        }
        for (int slot = 0; slot < 2; slot++) {
            Check.due("empty slot " + slot, x.restore(slot), -2);
            Check.due("keep " + slot, x.keep(slot), 2);
            Check.due("restore " + slot, x.restore(slot), 2);
        }
        for (int slot : new int[] {-1, 2, Given.LEAST_INT, Given.GREATEST_INT}) {
            Check.due("restore " + slot + " beside kept ones", x.restore(slot), -1);
        }
    }

    /** Promise 13: "NOT_FOUND if the slot is empty". */
    private static void emptySlots() {
        BoardLetters x = new BoardLetters();
        Check.due("slot 0 at first", x.restore(0), -2);
        Check.due("slot 1 at first", x.restore(1), -2);
        x.keep(1);
        Check.due("slot 0 beside slot 1", x.restore(0), -2);
        x = new BoardLetters();
        x.keep(0);
        Check.due("slot 1 beside slot 0", x.restore(1), -2);
        dueOperations("empty slots", x, 0);
    }

    /** Promises 12 and 13: a slot of no words is not empty. */
    private static void slotOfNoWords() {
        BoardLetters x = new BoardLetters();
        Check.due("keep no words", x.keep(0), 0);
        Check.say(x, "a aa");
        Check.due("restore no words", x.restore(0), 0);
        Check.due("words", x.value(11), 0);
        Check.due("it can be undone", x.undo(), 1);
        Check.due("words again", x.value(11), 2);
        Check.say(x, "a ".repeat(30));
        Check.due("keep thirty words", x.keep(1), 30);
        x.say();
        Check.due("restore thirty words", x.restore(1), 30);
    }

    /** Promise 12: "everything that operations change". */
    private static void slotKeepsAll() {
        BoardLetters x = new BoardLetters();
        x.keep(0);
        int[] v = {10, 1, 0, 10, 0, 9};
        for (int what = 0; what < 6; what++) {
            x.setNumber(what, v[what]);
        }
        x.correct(0, 0, -9);
        x.setBreak(1);
        x.setFill(true);
        Check.say(x, "aaaaaaaaaaaa a");
        x.keep(1);
        int[] first = {100, 100, 2, 3, 8, 1, 10, 0, 0, 1, 0, 0, 0, 0};
        int[] second = {10, 1, 0, 10, 0, 9, 10, 1, 1, 1, 1, 2, 2, 13};
        x.restore(0);
        for (int what = 0; what < 14; what++) {
            Check.due("first value " + what, x.value(what), first[what]);
        }
        Check.due("first correction", x.correction(0, 0), 9);
        x.restore(1);
        for (int what = 0; what < 14; what++) {
            Check.due("second value " + what, x.value(what), second[what]);
        }
        Check.due("second correction", x.correction(0, 0), 0);
        Check.due("letters of a word", x.spelled(0, 11), 0);
    }

    /** Promise 12: "in place of what it had". */
    private static void slotIsReplaced() {
        BoardLetters x = Given.plain(1, 2, 3);
        Check.due("keep", x.keep(0), 3);
        Check.say(x, "a");
        Check.due("keep again", x.keep(0), 1);
        Check.say(x, "a a");
        Check.due("restore", x.restore(0), 1);
        Check.due("letters", x.value(13), 1);
    }

    /** Promise 13: "the slot keeps it". */
    private static void slotStaysAfterRestore() {
        BoardLetters x = Given.plain(1, 2, 3);
        x.keep(0);
        for (int n = 0; n < 3; n++) {
            Check.due("restore", x.restore(0), 3);
            x.swap(0, 2);
            x.setNumber(Given.INNER, 10 + n);
            x.correct(0, 0, n + 1);
            x.setFill(true);
            Check.say(x, "aaaa");
        }
        Check.due("restore", x.restore(0), 3);
        Check.due("first word", x.word(0, 0), 1);
        Check.due("INNER", x.value(0), 100);
        Check.due("corrections", x.value(10), 0);
        Check.due("FILL", x.value(8), 0);
    }

    // ---- undo

    /** Promise 14: "INVALID if there is none". */
    private static void nothingToUndo() {
        BoardLetters x = new BoardLetters();
        Check.due("none at first", x.undo(), -1);
        x.setFill(true);
        Check.due("one", x.undo(), 0);
        Check.due("none then", x.undo(), -1);
        Check.due("and still none", x.undo(), -1);
        Check.due("FILL", x.value(8), 0);
        x.setFill(true);
        Check.due("one again", x.undo(), 0);
    }

    /** Section 5: "The latest 8 of them can be undone". */
    private static void eightOperationsAndNine() {
        for (int made = 7; made <= 9; made++) {
            BoardLetters x = new BoardLetters();
            for (int n = 1; n <= made; n++) {
                x.setNumber(Given.INNER, 100 + n);
            }
            int undone = made == 9 ? 8 : made;
            for (int n = 1; n <= undone; n++) {
                Check.due("undo " + n + " of " + made, x.undo(), undone - n);
                Check.due("INNER", x.value(0), 100 + made - n);
            }
            Check.due("undo beyond " + made, x.undo(), -1);
            Check.due("INNER stays", x.value(0), 100 + made - undone);
        }
    }

    /** Section 5: the latest 8 of many, wherever they start. */
    private static void manyOperations() {
        for (int made = 10; made <= 26; made++) {
            BoardLetters x = new BoardLetters();
            for (int n = 1; n <= made; n++) {
                Check.say(x, "a ".repeat(n));
            }
            for (int left = 7; left >= 0; left--) {
                Check.due("undo of " + made, x.undo(), left);
                Check.due("words", x.value(11), made - 8 + left);
            }
            Check.due("no more", x.undo(), -1);
            Check.due("words stay", x.value(11), made - 8);
        }
    }

    /** Section 5: "that return 0 or more": a return of 0 is an operation, too. */
    private static void operationsThatReturnZero() {
        BoardLetters x = new BoardLetters();
        Check.due("say of no words", x.say(), 0);
        dueOperations("say", x, 1);
        x = Check.loaded(Given.board(100, 100, 0, 10, 0, 0, 1) + Given.even('a', 10, 1, 1) + "pair a a closer 9;");
        Check.due("from LEAD 0", x.setNumber(Given.LEAD, 1), 0);
        dueOperations("setNumber", x, 1);
        Check.due("from -9", x.correct(0, 0, 1), 0);
        dueOperations("correct", x, 1);
        Check.due("from BREAK 0", x.setBreak(1), 0);
        dueOperations("setBreak", x, 1);
        x.keep(0);
        Check.due("to no words", x.restore(0), 0);
        dueOperations("restore", x, 1);
        x = Given.thirteenRows();
        x.swap(0, 1);
        x.undo();
        Check.due("to no rows", x.swap(0, 1), 0);
        Check.due("swap undone", x.undo(), 3);
        Check.due("setFill returns 1", x.setFill(true), 1);
        Check.due("setFill undone", x.undo(), 3);
    }

    /** Section 5: calls that return less than 0 are none. */
    private static void refusedCallsAreNoOperations() {
        BoardLetters x = new BoardLetters();
        x.setNumber(0, 100);
        x.setNumber(0, 9);
        x.setNumber(6, 9);
        x.correct(0, 0, 0);
        x.correct(0, 0, 10);
        x.correct(0, 1, 1);
        x.setBreak(0);
        x.setBreak(2);
        x.setFill(false);
        x.swap(0, 0);
        x.swap(0, 1);
        x.restore(0);
        x.restore(2);
        Check.say(x, "b");
        Check.say(x, "a".repeat(13));
        Check.load(x, "board");
        dueOperations("none that stands", x, 0);
        x.setFill(true);
        for (int n = 0; n < 10; n++) {
            x.setFill(true);
            x.setNumber(0, 9);
            Check.say(x, "b");
        }
        Check.due("the one ahead of them", x.undo(), 0);
        Check.due("FILL", x.value(8), 0);
    }

    /** Section 5 tells which calls are operations; the others are none. */
    private static void callsThatAreNoOperations() {
        BoardLetters x = Given.plain(2, 1, 1);
        x.append(0x61612020, 0x20202020, 0x20202020, 0x20202020, 0x20202020);
        x.truncate(1);
        x.keep(0);
        x.keep(1);
        x.bestSwap();
        x.bestSize();
        x.bestGap();
        x.leastInner(1);
        x.leastCost();
        x.bestCorrection(0, 0);
        x.fillGap(0);
        Check.due("three operations made the text", x.undo(), 2);
        Check.due("and say() was the last one", x.value(11), 0);
        Check.due("the next one", x.undo(), 1);
        Check.due("the first one", x.undo(), 0);
        Check.due("undo is none", x.undo(), -1);
    }

    /** Promise 13 knows no "so already". */
    private static void restoreOfTheSameIsAnOperation() {
        BoardLetters x = Given.plain(2, 1);
        x.keep(0);
        Check.due("restore", x.restore(0), 2);
        Check.due("restore again", x.restore(0), 2);
        Check.due("undone", x.undo(), 4);
        Check.due("undone, too", x.undo(), 3);
        Check.due("words", x.value(11), 2);
        Check.say(x, "aa a");
        Check.due("say of the same words is one, too", x.undo(), 3);
    }

    /** Section 5: "undo() leaves the slots .. as they are". */
    private static void undoLeavesTheSlots() {
        BoardLetters x = Given.plain(2, 1);
        x.keep(0);
        x.setNumber(Given.INNER, 50);
        x.keep(1);
        x.undo();
        x.undo();
        x.undo();
        x.undo();
        Check.due("words", x.value(11), 0);
        Check.due("slot 0", x.restore(0), 2);
        Check.due("its INNER", x.value(0), 100);
        Check.due("slot 1", x.restore(1), 2);
        Check.due("its INNER", x.value(0), 50);
        x = new BoardLetters();
        x.setFill(true);
        x.undo();
        Check.due("an empty slot stays empty", x.restore(0), -2);
    }

    /** Section 5: "undo() leaves .. the tape". */
    private static void undoLeavesTheTape() {
        BoardLetters x = new BoardLetters();
        Check.say(x, "a a");
        Check.due("undone", x.undo(), 0);
        Check.due("the text does not come back", x.tapeLength(), 0);
        x.setFill(true);
        Check.feed(x, "aa a");
        x.undo();
        Check.due("tape", x.tapeLength(), 4);
        Check.due("words of it", x.say(), 2);
        Check.due("letters of them", x.value(13), 3);
    }

    /** Section 5: "undo() leaves .. the error position". */
    private static void undoLeavesTheErrorPosition() {
        BoardLetters x = new BoardLetters();
        x.setFill(true);
        Check.say(x, "aaa?");
        Check.due("error position", x.errorPosition(), 3);
        x.undo();
        Check.due("it stays", x.errorPosition(), 3);
        Check.say(x, "aaa");
        x.undo();
        Check.due("no error stays, too", x.errorPosition(), -2);
        Check.load(x, "boar");
        x.setFill(true);
        x.undo();
        Check.due("that of load()", x.errorPosition(), 0);
    }

    /** Promise 14: "the latest operation .. that has not been undone". */
    private static void undoneOperationsAreGone() {
        BoardLetters x = new BoardLetters();
        for (int n = 1; n <= 8; n++) {
            x.setNumber(Given.INNER, 100 + n);
        }
        Check.due("the eighth", x.undo(), 7);
        Check.due("the seventh", x.undo(), 6);
        x.setNumber(Given.INNER, 200);
        Check.due("the new one", x.undo(), 6);
        Check.due("INNER behind the sixth", x.value(0), 106);
        Check.due("the sixth", x.undo(), 5);
        Check.due("INNER behind the fifth", x.value(0), 105);
    }

    /** Promise 4: "the slots are empty, and nothing can be undone". */
    private static void loadForgetsOperationsAndSlots() {
        BoardLetters x = Given.plain(2, 1);
        x.keep(0);
        x.keep(1);
        Check.load(x, Given.board(100, 100, 2, 10, 3, 8, 1) + Given.even('a', 10, 1, 1));
        Check.due("slot 0", x.restore(0), -2);
        Check.due("slot 1", x.restore(1), -2);
        Check.due("undo", x.undo(), -1);
        x.setFill(true);
        Check.due("undo of one", x.undo(), 0);
        Check.due("and no more", x.undo(), -1);
    }

    /** Promise 4: "On an error everything but the tape and the error position stays." */
    private static void refusedLoadForgetsNothing() {
        String text = Given.board(50, 50, 5, 5, 5, 5, 5) + Given.even('b', 10, 1, 1) + Given.even('a', 5, 0, 0) + "pair a b wider 9;";
        for (int length = 0; length < text.length(); length += 7) {
            BoardLetters x = Given.plain(2, 1);
            x.keep(0);
            Check.due("refused text of " + length, Check.load(x, text.substring(0, length) + "?"), -1);
            Check.due("words", x.value(11), 2);
            Check.due("slot 0", x.restore(0), 2);
            Check.due("slot 1", x.restore(1), -2);
            dueOperations("three and restore()", x, 4);
            Check.due("letters", x.value(9) * 100 + x.letter(0, 0), 110);
            Check.due("CAP", x.value(6), 10);
        }
    }
}
