/** Promises 7 to 14: operations, slots and undo. */
final class OperationTests {
    public static void main(String[] args) {
        setNumber();
        setNumberAtTheEdges();
        correct();
        setBreak();
        setFill();
        swap();
        keepAndRestore();
        undo();
        undoOfEachOperation();
        whatUndoLeaves();
        rowsAfterEachOperation();
        Check.finish("OperationTests");
    }

    /** Promise 7. */
    private static void setNumber() {
        BoardLetters x = new BoardLetters();
        int[] earlier = {100, 100, 2, 3, 8, 1};
        int[] next = {50, 60, 7, 5, 9, 4};
        for (int what = 0; what < 6; what++) {
            Check.due("so already", x.setNumber(what, earlier[what]), -2);
            Check.due("set " + what, x.setNumber(what, next[what]), earlier[what]);
            Check.due("value " + what, x.value(what), next[what]);
            Check.due("so then", x.setNumber(what, next[what]), -2);
        }
        Check.due("what 6", x.setNumber(6, 5), -1);
        Check.due("what -1", x.setNumber(-1, 5), -1);
        Check.due("CAP stays", x.value(6), 10);
        Check.due("six operations", x.undo(), 5);
        Check.due("SIZE again", x.value(5), 1);
        Check.due("WORD still", x.value(4), 9);
    }

    private static void setNumberAtTheEdges() {
        BoardLetters x = new BoardLetters();
        int[] least = {10, 1, 0, 0, 0, 1};
        int[] most = {9999, 9999, 99, 10, 99, 9};
        for (int what = 0; what < 6; what++) {
            Check.due("too small " + what, x.setNumber(what, least[what] - 1), -1);
            Check.due("too great " + what, x.setNumber(what, most[what] + 1), -1);
            Check.due("least int " + what, x.setNumber(what, Integer.MIN_VALUE), -1);
            Check.due("greatest int " + what, x.setNumber(what, Integer.MAX_VALUE), -1);
        }
        Check.due("nothing to undo", x.undo(), -1);
        for (int what = 0; what < 6; what++) {
            x.setNumber(what, most[what]);
            Check.due("greatest " + what, x.value(what), most[what]);
            Check.due("to the least " + what, x.setNumber(what, least[what]), most[what]);
            Check.due("least " + what, x.value(what), least[what]);
        }
        x = Check.loaded("board 40 30 lead 2 cap 4 gap 3 word 5 size 1;letter q wide 6 left 1 1 1 1 1 1 right 1 1 1 1 1 1;");
        Check.due("GAP above CAP", x.setNumber(3, 5), -1);
        Check.due("GAP of CAP", x.setNumber(3, 4), 3);
    }

    /** Promise 8. */
    private static void correct() {
        BoardLetters x = Check.loaded("board 40 30 lead 2 cap 10 gap 3 word 5 size 1;"
                + "letter a wide 6 left 1 1 1 1 1 1 right 1 1 1 1 1 1;"
                + "letter z wide 6 left 1 1 1 1 1 1 right 1 1 1 1 1 1;pair z a wider 2;");
        Check.due("so already", x.correct(0, 25, 0), -2);
        Check.due("told already", x.correct(25, 0, 2), -2);
        Check.due("first", x.correct(0, 25, -9), 9);
        Check.due("correction", x.correction(0, 25), 0);
        Check.due("other way", x.correction(25, 0), 11);
        Check.due("from -9 to 9", x.correct(0, 25, 9), 0);
        Check.due("from 9 to 0", x.correct(0, 25, 0), 18);
        Check.due("told one", x.correct(25, 0, -3), 11);
        Check.due("same letter", x.correct(25, 25, 1), 9);
        Check.due("pairs", x.value(10), 2);
        Check.due("letter not told", x.correct(1, 0, 1), -1);
        Check.due("second letter not told", x.correct(0, 1, 1), -1);
        Check.due("letter -1", x.correct(-1, 0, 1), -1);
        Check.due("letter 26", x.correct(0, 26, 1), -1);
        Check.due("v -10", x.correct(0, 0, -10), -1);
        Check.due("v 10", x.correct(0, 0, 10), -1);
        Check.due("invalid ahead of so already", x.correct(1, 1, 0), -1);
        Check.due("operations", x.undo(), 4);
        Check.due("pairs then", x.value(10), 1);
    }

    /** Promise 9. */
    private static void setBreak() {
        BoardLetters x = new BoardLetters();
        Check.due("so already", x.setBreak(0), -2);
        Check.due("to 1", x.setBreak(1), 0);
        Check.due("value", x.value(7), 1);
        Check.due("so then", x.setBreak(1), -2);
        Check.due("2", x.setBreak(2), -1);
        Check.due("-1", x.setBreak(-1), -1);
        Check.due("to 0", x.setBreak(0), 1);
        Check.due("operations", x.undo(), 1);
        Check.due("value then", x.value(7), 1);
    }

    /** Promise 10. */
    private static void setFill() {
        BoardLetters x = new BoardLetters();
        Check.due("off already", x.setFill(false), -2);
        Check.due("on", x.setFill(true), 1);
        Check.due("value", x.value(8), 1);
        Check.due("on already", x.setFill(true), -2);
        Check.due("off", x.setFill(false), 1);
        Check.due("value then", x.value(8), 0);
        Check.due("operations", x.undo(), 1);
    }

    /** Promise 11: with GAP 2 a word of n letters is 10 n wide. */
    private static void swap() {
        BoardLetters x = new BoardLetters();
        x.setNumber(3, 2);
        x.setNumber(4, 10);
        Check.due("words", Check.say(x, "aaaaa aaaaa aaa aaaa"), 4);
        Check.due("rows", x.value(12), 3);
        Check.due("30 and 50, 50 and 40", x.swap(0, 2), 2);
        int[] lengths = {3, 5, 5, 4};
        for (int i = 0; i < 4; i++) {
            Check.due("word " + i, x.word(i, 0), lengths[i]);
        }
        Check.due("letters stay", x.value(13), 17);
        Check.due("same word", x.swap(1, 1), -1);
        Check.due("words that are spelled alike", x.swap(1, 2), 2);
        Check.due("-1", x.swap(-1, 0), -1);
        Check.due("4", x.swap(0, 4), -1);
        Check.due("the other one", x.swap(4, 0), -1);
        Check.due("operations", x.undo(), 4);
        Check.due("and again", x.undo(), 3);
        Check.due("first word", x.word(0, 0), 5);
        x = new BoardLetters();
        Check.due("no words", x.swap(0, 1), -1);
        Check.say(x, "aaaaaaaaa ".repeat(13));
        Check.due("without rows", x.swap(0, 12), 0);
        BoardLetters y = Check.loaded("board 40 30 lead 2 cap 10 gap 3 word 5 size 1;"
                + "letter b wide 6 left 1 1 1 1 1 1 right 1 1 1 1 1 1;letter c wide 6 left 1 1 1 1 1 1 right 1 1 1 1 1 1;");
        Check.say(y, "bcc cb");
        y.swap(1, 0);
        Check.due("spelled", y.spelled(0, 0) * 100 + y.spelled(0, 1), 201);
        Check.due("end of it", y.spelled(0, 2), -2);
        Check.due("spelled too", y.spelled(1, 0) * 10000 + y.spelled(1, 1) * 100 + y.spelled(1, 2), 10202);
    }

    /** Promises 12 and 13. */
    private static void keepAndRestore() {
        BoardLetters x = new BoardLetters();
        Check.due("empty", x.restore(0), -2);
        Check.due("slot 2", x.restore(2), -1);
        Check.due("slot -1", x.restore(-1), -1);
        Check.due("keep 2", x.keep(2), -1);
        Check.due("keep -1", x.keep(-1), -1);
        Check.due("keep without words", x.keep(1), 0);
        Check.due("keep is no operation", x.undo(), -1);
        Check.due("slot 0 is empty still", x.restore(0), -2);
        Check.say(x, "aa a");
        x.correct(0, 0, 4);
        x.setNumber(0, 77);
        x.setBreak(1);
        x.setFill(true);
        Check.due("keep", x.keep(0), 2);
        Check.due("restore without words", x.restore(1), 0);
        int[] first = {100, 100, 2, 3, 8, 1, 10, 0, 0, 1, 0, 0, 0, 0};
        int[] second = {77, 100, 2, 3, 8, 1, 10, 1, 1, 1, 1, 2, 1, 3};
        for (int what = 0; what < 14; what++) {
            Check.due("value " + what, x.value(what), first[what]);
        }
        Check.due("restore", x.restore(0), 2);
        for (int what = 0; what < 14; what++) {
            Check.due("value " + what, x.value(what), second[what]);
        }
        Check.due("correction", x.correction(0, 0), 13);
        Check.say(x, "a a a");
        Check.due("the slot keeps it", x.restore(0), 2);
        Check.due("restore is an operation", x.undo(), 7);
        Check.due("words", x.value(11), 3);
        Check.due("keep in place of it", x.keep(0), 3);
        x.undo();
        Check.due("undo leaves the slots", x.restore(0), 3);
    }

    /** Promise 14. */
    private static void undo() {
        BoardLetters x = new BoardLetters();
        Check.due("none", x.undo(), -1);
        for (int inner = 11; inner <= 20; inner++) {
            x.setNumber(0, inner);
        }
        for (int left = 7; left >= 0; left--) {
            Check.due("undo", x.undo(), left);
            Check.due("INNER", x.value(0), 12 + left);
        }
        Check.due("the latest 8 alone", x.undo(), -1);
        Check.due("INNER stays", x.value(0), 12);
        x.setNumber(0, 30);
        x.setNumber(0, 31);
        x.setNumber(0, 32);
        Check.due("two left", x.undo(), 2);
        x.setNumber(0, 33);
        Check.due("two left again", x.undo(), 2);
        Check.due("INNER", x.value(0), 31);
        Check.due("one left", x.undo(), 1);
        Check.due("none left", x.undo(), 0);
        Check.due("INNER at first", x.value(0), 12);
    }

    private static void undoOfEachOperation() {
        BoardLetters x = new BoardLetters();
        Check.say(x, "a aa aaa");
        x.setNumber(5, 2);
        x.correct(0, 0, -2);
        x.setBreak(1);
        x.setFill(true);
        x.swap(0, 2);
        x.keep(0);
        Check.say(x, "aaaa");
        x.restore(0);
        Check.due("restore undone", x.undo(), 7);
        Check.due("one word", x.value(11), 1);
        Check.due("say undone", x.undo(), 6);
        Check.due("three words", x.value(11), 3);
        Check.due("swapped", x.word(0, 0), 3);
        Check.due("swap undone", x.undo(), 5);
        Check.due("not swapped", x.word(0, 0), 1);
        Check.due("setFill undone", x.undo(), 4);
        Check.due("FILL", x.value(8), 0);
        Check.due("setBreak undone", x.undo(), 3);
        Check.due("BREAK", x.value(7), 0);
        Check.due("correct undone", x.undo(), 2);
        Check.due("correction", x.correction(0, 0), 9);
        Check.due("setNumber undone", x.undo(), 1);
        Check.due("SIZE", x.value(5), 1);
        Check.due("say undone", x.undo(), 0);
        Check.due("no words", x.value(11), 0);
    }

    /** Rows are asked for ahead of each operation and behind it. */
    private static void rowsAfterEachOperation() {
        BoardLetters x = new BoardLetters();
        dueRows(x, 0, "");
        Check.say(x, "aaa aaaaa a aaaaaaaaa");
        // widths for GAP 3: 32, 54, 10, 98; 6 less than 100
        dueRows(x, 3, "3");
        x.setNumber(0, 98);
        dueRows(x, 3, "2");
        x.setNumber(0, 100);
        x.correct(0, 0, 3);
        // 38, 66, 10, 122
        dueRows(x, 3, "31");
        x.setBreak(1);
        x.swap(2, 3);
        dueRows(x, 4, "31");
        x.setFill(true);
        // 38 + 2 * 7 for CAP
        dueRows(x, 4, "24");
        x.undo();
        dueRows(x, 4, "31");
        x.undo();
        dueRows(x, 3, "31");
        x.keep(0);
        Check.say(x, "a");
        dueRows(x, 1, "45");
        x.restore(0);
        dueRows(x, 3, "31");
        x.undo();
        dueRows(x, 1, "45");
    }

    private static void dueRows(BoardLetters x, int rows, String start) {
        StringBuilder first = new StringBuilder();
        for (int i = 0; i < start.length(); i++) {
            first.append((char) x.viewByte(i));
        }
        Check.dueText("start of the first row", first.toString(), start);
        Check.due("rows", x.value(12), rows);
    }

    /** Section 5: calls that fail are no operations; undo() leaves the slots, the tape and the error position. */
    private static void whatUndoLeaves() {
        BoardLetters x = new BoardLetters();
        x.setFill(true);
        x.setFill(true);
        x.setNumber(0, 100);
        x.setNumber(0, 5);
        x.correct(0, 0, 0);
        x.setBreak(0);
        x.swap(0, 0);
        x.restore(0);
        Check.say(x, "b");
        x.keep(0);
        Check.feed(x, "aa");
        Check.due("one operation", x.undo(), 0);
        Check.due("tape", x.tapeLength(), 2);
        Check.due("error position", x.errorPosition(), 0);
        Check.due("slot", x.restore(0), 0);
        Check.due("FILL as it was kept", x.value(8), 1);
    }
}
