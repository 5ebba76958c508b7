/** Promises 1 to 6 and 52: the new object and the texts that are read. */
final class ReadingTests {
    private static final String BOARD = "board 40 30 lead 2 cap 10 gap 3 word 5 size 1;";
    private static final String A = "letter a wide 6 left 1 1 1 1 1 1 right 1 1 1 1 1 1;";
    private static final String T = "letter t wide 6 left 0 2 2 2 2 2 right 0 2 2 2 2 open;";

    public static void main(String[] args) {
        newObject();
        append();
        truncate();
        load();
        loadReplacesAll();
        loadAfterOtherTexts();
        loadKeepsAllOnError();
        numbersInRange();
        numbersOutOfRange();
        lettersInRange();
        tokens();
        errorsOfTheBoard();
        errorsOfLettersAndPairs();
        say();
        errorsOfWords();
        Check.finish("ReadingTests");
    }

    /** Promise 1. */
    private static void newObject() {
        BoardLetters x = new BoardLetters();
        int[] due = {100, 100, 2, 3, 8, 1, 10, 0, 0, 1, 0, 0, 0, 0};
        for (int what = 0; what < due.length; what++) {
            Check.due("new value " + what, x.value(what), due[what]);
        }
        Check.due("WIDE of a", x.letter(0, 0), 10);
        Check.due("left insets of a", x.letter(0, 1), 6);
        Check.due("right insets of a", x.letter(0, 2), 6);
        Check.due("b is not told", x.letter(1, 0), -1);
        for (int band = 0; band < 6; band++) {
            Check.due("left inset", x.inset(0, false, band), 1);
            Check.due("right inset", x.inset(0, true, band), 1);
        }
        Check.due("empty slot 0", x.restore(0), -2);
        Check.due("empty slot 1", x.restore(1), -2);
        Check.due("nothing to undo", x.undo(), -1);
        Check.due("no error", x.errorPosition(), -2);
        Check.due("empty tape", x.tapeLength(), 0);
        Check.due("INVALID", BoardLetters.INVALID, -1);
        Check.due("NOT_FOUND", BoardLetters.NOT_FOUND, -2);
    }

    /** Promises 2 and 52. */
    private static void append() {
        BoardLetters x = new BoardLetters();
        for (int n = 1; n <= 100; n++) {
            Check.due("append " + n, x.append(0, 0, 0, 0, 0), 20 * n);
        }
        Check.due("beyond 2000 bytes", x.append(0, 0, 0, 0, 0), -1);
        Check.due("nothing appended", x.tapeLength(), 2000);
        Check.due("one byte off", x.truncate(1), 1999);
        Check.due("1999 and 20", x.append(0, 0, 0, 0, 0), -1);
        Check.due("down to 1980", x.truncate(19), 1980);
        Check.due("1980 and 20", x.append(0, 0, 0, 0, 0), 2000);
        // "a aa" " aaa" "a aa" "aaa " "\naaa": the order of all bytes shows in the words
        BoardLetters y = new BoardLetters();
        y.append(0x61206161, 0x20616161, 0x61206161, 0x61616120, 0x0a616161);
        Check.due("words", y.say(), 5);
        int[] lengths = {1, 2, 4, 5, 3};
        for (int i = 0; i < 5; i++) {
            Check.due("length of word " + i, y.word(i, 0), lengths[i]);
        }
        // a byte above 127 in each of the four places of an int
        for (int place = 0; place < 4; place++) {
            BoardLetters z = new BoardLetters();
            z.append(0x20202020, 0x20202020 | 0x80 << 24 - 8 * place, 0x20202020, 0x20202020, 0x20202020);
            Check.due("high byte", z.say(), -1);
            Check.due("place of the high byte", z.errorPosition(), 4 + place);
        }
    }

    /** Promises 3 and 52. */
    private static void truncate() {
        BoardLetters x = new BoardLetters();
        Check.due("0 of 0", x.truncate(0), 0);
        Check.due("1 of 0", x.truncate(1), -1);
        Check.feed(x, "a aa");
        Check.due("length", x.tapeLength(), 4);
        Check.due("negative", x.truncate(-1), -1);
        Check.due("too many", x.truncate(5), -1);
        Check.due("least int", x.truncate(Integer.MIN_VALUE), -1);
        Check.due("greatest int", x.truncate(Integer.MAX_VALUE), -1);
        Check.due("length stays", x.tapeLength(), 4);
        Check.due("none", x.truncate(0), 4);
        Check.due("the last ones", x.truncate(2), 2);
        Check.due("what is left", x.say(), 1);
        Check.due("its length", x.word(0, 0), 1);
        Check.feed(x, "aaa");
        Check.due("all", x.truncate(3), 0);
    }

    /** Promises 4 and 5. */
    private static void load() {
        BoardLetters x = new BoardLetters();
        Check.due("two letters", Check.load(x, BOARD + A + T + "pair a t closer 1;"), 2);
        Check.due("no error", x.errorPosition(), -2);
        Check.due("tape is empty", x.tapeLength(), 0);
        int[] due = {40, 30, 2, 3, 5, 1, 10, 0, 0, 2, 1, 0, 0, 0};
        for (int what = 0; what < due.length; what++) {
            Check.due("value " + what, x.value(what), due[what]);
        }
        Check.due("WIDE", x.letter(19, 0), 6);
        Check.due("left of t, band 0", x.inset(19, false, 0), 0);
        Check.due("left of t, band 1", x.inset(19, false, 1), 2);
        Check.due("right of t, band 5", x.inset(19, true, 5), -2);
        Check.due("closer", x.correction(0, 19), 8);
        Check.due("the other way", x.correction(19, 0), 9);
        Check.due("text once more", x.load(), -1);
        Check.due("an empty text ends too early", x.errorPosition(), 0);
        x = Check.loaded(BOARD + A + T + "pair a t closer 9;pair t t wider 9;pair a t wider 4;pair a a closer 0;");
        Check.due("the last one counts", x.correction(0, 19), 13);
        Check.due("wider", x.correction(19, 19), 18);
        Check.due("closer 0", x.correction(0, 0), 9);
        Check.due("pairs", x.value(10), 2);
        x = Check.loaded(BOARD + A + "pair a a closer 9;");
        Check.due("closer 9", x.correction(0, 0), 0);
    }

    /** Promise 4: BREAK, FILL, the words, the slots and what could be undone. */
    private static void loadReplacesAll() {
        BoardLetters x = new BoardLetters();
        Check.say(x, "a aa");
        x.setBreak(1);
        x.setFill(true);
        x.correct(0, 0, 5);
        x.keep(0);
        x.keep(1);
        Check.due("one letter", Check.load(x, BOARD + T), 1);
        Check.due("BREAK", x.value(7), 0);
        Check.due("FILL", x.value(8), 0);
        Check.due("words", x.value(11), 0);
        Check.due("rows", x.value(12), 0);
        Check.due("pairs", x.value(10), 0);
        Check.due("a is no longer told", x.letter(0, 0), -1);
        Check.due("slot 0", x.restore(0), -2);
        Check.due("slot 1", x.restore(1), -2);
        Check.due("undo", x.undo(), -1);
        Check.due("load is no operation", x.setFill(true), 1);
        Check.due("undo of one", x.undo(), 0);
    }

    /** Promise 4: nothing of an earlier text, read or refused, is left. */
    private static void loadAfterOtherTexts() {
        BoardLetters x = new BoardLetters();
        x.correct(0, 0, 5);
        x.setBreak(1);
        x.setFill(true);
        Check.say(x, "a aa aaa");
        Check.due("a row", x.value(12), 1);
        Check.due("first text", Check.load(x, BOARD + A + T + "pair a a wider 1;pair a t wider 2;pair t a wider 3;pair t t wider 4;"), 2);
        Check.due("no row", x.value(12), 0);
        Check.due("no view", x.viewLength(), 0);
        Check.due("BREAK", x.value(7), 0);
        Check.due("FILL", x.value(8), 0);
        Check.due("refused text", Check.load(x, BOARD + A + T + "pair a a wider 5;pair"), -1);
        Check.due("next text", Check.load(x, BOARD + A + T), 2);
        Check.due("pairs", x.value(10), 0);
        Check.say(x, "tat");
        Check.due("width", x.word(0, 1), 6 - 1 + 6 + 1 + 6);
        Check.due("last text", Check.load(x, BOARD + T), 1);
        Check.due("a", x.letter(0, 0), -1);
    }

    /** Promise 4: on an error all but the tape and the error position stays. */
    private static void loadKeepsAllOnError() {
        BoardLetters x = new BoardLetters();
        Check.say(x, "a aa");
        x.setBreak(1);
        x.setFill(true);
        x.correct(0, 0, 5);
        x.keep(1);
        Check.due("bad text", Check.load(x, BOARD + A + T + "pair a t closer 1;pair a"), -1);
        Check.due("error position", x.errorPosition(), (BOARD + A + T).length() + 24);
        Check.due("tape is empty", x.tapeLength(), 0);
        int[] due = {100, 100, 2, 3, 8, 1, 10, 1, 1, 1, 1, 2, 1, 3};
        for (int what = 0; what < due.length; what++) {
            Check.due("value " + what, x.value(what), due[what]);
        }
        Check.due("t is not told", x.letter(19, 0), -1);
        Check.due("WIDE of a", x.letter(0, 0), 10);
        Check.due("correction", x.correction(0, 0), 14);
        Check.due("slot", x.restore(1), 2);
        Check.due("undo", x.undo(), 4);
        Check.due("words", Check.say(x, "a"), 1);
        Check.due("no error then", x.errorPosition(), -2);
    }

    /** Section 4: the ranges of the board's INTs hold their ends. */
    private static void numbersInRange() {
        BoardLetters x = Check.loaded(Given.board(10, 1, 0, 1, 0, 0, 1) + A);
        int[] least = {10, 1, 0, 0, 0, 1, 1};
        for (int what = 0; what < 7; what++) {
            Check.due("least value " + what, x.value(what), least[what]);
        }
        x = Check.loaded(Given.board(9999, 9999, 99, 30, 30, 99, 9) + A);
        int[] most = {9999, 9999, 99, 30, 99, 9, 30};
        for (int what = 0; what < 7; what++) {
            Check.due("greatest value " + what, x.value(what), most[what]);
        }
    }

    /** Promise 5 and section 4: an INT out of its range cannot stand. */
    private static void numbersOutOfRange() {
        stops(Given.board(9, 1, 0, 1, 0, 0, 1) + A, 6);
        stops(Given.board(10, 0, 0, 1, 0, 0, 1) + A, 9);
        stops(Given.board(10, 1, 100, 1, 0, 0, 1) + A, 16);
        stops(Given.board(10, 1, 0, 0, 0, 0, 1) + A, 22);
        stops(Given.board(10, 1, 0, 31, 0, 0, 1) + A, 22);
        stops(Given.board(10, 1, 0, 1, 2, 0, 1) + A, 28);
        stops(Given.board(10, 1, 0, 30, 31, 0, 1) + A, 29);
        stops(Given.board(10, 1, 0, 1, 0, 100, 1) + A, 35);
        stops(Given.board(10, 1, 0, 1, 0, 0, 0) + A, 42);
        stops(Given.board(10, 1, 0, 1, 0, 0, 10) + A, 42);
        stops("board 10000 1", 6);
        stops("board 10 10000", 9);
    }

    private static void lettersInRange() {
        BoardLetters x = Check.loaded(BOARD + "letter z wide 60 left 9 0 open open 3 9 right 0 9 1 2 3 open;");
        Check.due("WIDE", x.letter(25, 0), 60);
        Check.due("left", x.letter(25, 1), 21);
        Check.due("right", x.letter(25, 2), 15);
        Check.due("open", x.letter(25, 3), 3);
        StringBuilder all = new StringBuilder(BOARD);
        for (char c = 'z'; c >= 'a'; c--) {
            all.append("letter ").append(c).append(" wide 1 left 0 0 0 0 0 0 right 0 0 0 0 0 0;");
        }
        Check.due("all letters", Check.load(x, all.toString()), 26);
        stops(all + "letter m wide", all.length() + 7);
        stops(BOARD + "letter a wide 0 left", BOARD.length() + 14);
        stops(BOARD + "letter a wide 61 left", BOARD.length() + 14);
        stops(BOARD + "letter a wide 1 left 10 0", BOARD.length() + 21);
        stops(BOARD + "letter a wide 1 left 0 0 0 0 0 0 right 0 0 0 0 0 10;", BOARD.length() + 49);
    }

    private static void goes(String text) {
        BoardLetters x = new BoardLetters();
        Check.dueTruth("load of \"" + text + "\"", Check.load(x, text) > 0, true);
        Check.due("error position of \"" + text + "\"", x.errorPosition(), -2);
    }

    private static void stops(String text, int position) {
        BoardLetters x = new BoardLetters();
        Check.due("load of \"" + text + "\"", Check.load(x, text), -1);
        Check.due("error position of \"" + text + "\"", x.errorPosition(), position);
        Check.due("tape after \"" + text + "\"", x.tapeLength(), 0);
    }

    /** Section 4: tokens are formed greedily, with or without white space between. */
    private static void tokens() {
        goes(" \n board\n40 30lead2cap 10gap\n\n3 word 5size 1 ;" + A + " \n");
        goes("board 0040 0030 lead 0002 cap 010 gap 003 word 05 size 01;" + A);
        goes(BOARD + "letter a wide 6 left 1 1 1 1 1open right open open open open open open;");
        goes(BOARD + A + "pair a a wider 0009;");
        stops("board 00040 30", 6);
        stops("boards 40 30", 0);
        stops("boar 40 30", 0);
        stops("board40 30x", 10);
        stops("Board 40 30", 0);
        stops("hoard 40 30", 0);
        stops("beard 40 30", 0);
        stops("boxrd 40 30", 0);
        stops("boaod 40 30", 0);
        stops("boars 40 30", 0);
        stops("board\t40", 5);
        stops("board 40 -3", 9);
        stops("board 40 30 lead 2 cap 10 gap 3 word 5 size 1:", 45);
        stops("\u00e9", 0);
        stops(" \0", 1);
        stops("  ", 2);
        stops("", 0);
    }

    private static void errorsOfTheBoard() {
        stops("letter a", 0);
        stops("board ;", 6);
        stops("board lead", 6);
        stops("board 40 lead", 9);
        stops("board 40 30 cap", 12);
        stops("board 40 30 lead 2 lead", 19);
        stops("board 40 30 lead 2 cap 10 word", 26);
        stops("board 40 30 lead 2 cap 10 gap 3 size", 32);
        stops("board 40 30 lead 2 cap 10 gap 3 word 5 ;", 39);
        stops("board 40 30 lead 2 cap 10 gap 3 word 5 size ;", 44);
        stops("board 40 30 lead 2 cap 10 gap 3 word 5 size 1 letter", 46);
        stops("board 40 30 lead", 16);
        stops(BOARD, BOARD.length());
        stops(BOARD + " ", BOARD.length() + 1);
        stops(BOARD + "pair a a", BOARD.length());
        stops(BOARD + ";", BOARD.length());
    }

    private static void errorsOfLettersAndPairs() {
        int b = BOARD.length();
        int n = b + A.length();
        stops(BOARD + "letter ab wide", b + 7);
        stops(BOARD + "letter 1", b + 7);
        stops(BOARD + "letter a left", b + 9);
        stops(BOARD + "letter a wide open", b + 14);
        stops(BOARD + "letter a wide 1 right", b + 16);
        stops(BOARD + "letter a wide 1 left 1 1 1 1 1 right", b + 31);
        stops(BOARD + "letter a wide 1 left 1 1 1 1 1 1 1", b + 33);
        stops(BOARD + "letter a wide 1 left 1 1 1 1 1 1 right closer", b + 39);
        stops(BOARD + "letter a wide 1 left 1 1 1 1 1 1 right 1 1 1 1 1 1 letter", b + 51);
        stops(BOARD + "letter a wide 1 left 1 1 1 1 1 1 right 1 1 1 1 1 1 ", b + 51);
        stops(BOARD + A + A, n + 7);
        stops(BOARD + "letter", b + 6);
        stops(BOARD + "letter a", b + 8);
        stops(BOARD + A + "letter", n + 6);
        stops(BOARD + A + "letter t", n + 8);
        stops(BOARD + A + "letter t wide", n + 13);
        stops(BOARD + A + ";", n);
        stops(BOARD + A + "pair", n + 4);
        stops(BOARD + A + "pair a a", n + 8);
        stops(BOARD + A + "pair a a closer", n + 15);
        stops(BOARD + A + "pair b a closer 1;", n + 5);
        stops(BOARD + A + "pair a b closer 1;", n + 7);
        stops(BOARD + A + "pair aa closer 1;", n + 5);
        stops(BOARD + A + "pair a a near 1;", n + 9);
        stops(BOARD + A + "pair a a closer 10;", n + 16);
        stops(BOARD + A + "pair a a closer open;", n + 16);
        stops(BOARD + A + "pair a a closer 1", n + 17);
        stops(BOARD + A + "pair a a closer 1 pair", n + 18);
        stops(BOARD + A + "pair a a closer 1;" + T, n + 18);
        stops(BOARD + A + "pair a a closer 1;board", n + 18);
    }

    /** Promises 5 and 6. */
    private static void say() {
        BoardLetters x = Check.loaded(BOARD + A + T);
        Check.due("three words", Check.say(x, "\n at  tat\n \na "), 3);
        Check.due("tape is empty", x.tapeLength(), 0);
        Check.due("no error", x.errorPosition(), -2);
        Check.due("letters", x.value(13), 6);
        Check.due("first letter", x.spelled(0, 0), 0);
        Check.due("second letter", x.spelled(0, 1), 19);
        Check.due("third word", x.word(2, 0), 1);
        Check.due("in place of those", Check.say(x, "t"), 1);
        Check.due("its letters", x.value(13), 1);
        Check.due("no word", Check.say(x, " \n"), 0);
        Check.due("words", x.value(11), 0);
        Check.due("it is an operation", x.undo(), 2);
        Check.due("words before", x.value(11), 1);
        Check.due("empty text", x.say(), 0);
        Check.due("twelve letters", Check.say(x, "atatatatatat"), 1);
        StringBuilder thirty = new StringBuilder();
        for (int n = 0; n < 30; n++) {
            thirty.append("a ");
        }
        Check.due("thirty words", Check.say(x, thirty.toString()), 30);
    }

    private static void errorsOfWords() {
        BoardLetters x = Check.loaded(BOARD + A + T);
        Check.say(x, "at ta");
        int[] due = {0, 3, 1, 14, 12, 13, 60, 60, 2};
        String[] bad = {"b", "at b", "a;", "t aaaaaaaaaaaaa", "aaaaaaaaaaaaa", " tttttttttttttttttt", "", "", "at\t"};
        bad[6] = "a ".repeat(30) + "ttt";
        bad[7] = "a\n".repeat(30) + "?";
        for (int i = 0; i < due.length; i++) {
            Check.due("say \"" + bad[i] + "\"", Check.say(x, bad[i]), -1);
            Check.due("error position of \"" + bad[i] + "\"", x.errorPosition(), due[i]);
            Check.due("tape", x.tapeLength(), 0);
            Check.due("words stay", x.value(11), 2);
        }
        Check.due("letters stay", x.value(13), 4);
        Check.due("first word stays", x.spelled(0, 1), 19);
        Check.due("an error is no operation", x.undo(), 0);
        Check.due("the error position stays with undo", x.errorPosition(), 2);
    }
}
