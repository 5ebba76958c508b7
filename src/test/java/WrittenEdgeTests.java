/** The boundary cases of promises 48 to 51: the texts that are written. */
final class WrittenEdgeTests {
    private static final String NEW_A = "letter a wide 10 left 1 1 1 1 1 1 right 1 1 1 1 1 1;";

    public static void main(String[] args) {
        viewOfOneByteMore();
        bytesOfAChangedView();
        viewOfNothing();
        viewOfOneLetter();
        viewOfStartsAtTheirEnds();
        viewOfGapsAtTheirEnds();
        viewOfTwelveRows();
        setupOfANewObject();
        setupOfNumbersAtTheirEnds();
        setupOfInsetsAndWides();
        setupOfPairsAtTheirEnds();
        setupOfTheLastLetterAndPair();
        setupHasNoBreakFillAndWords();
        Check.finish("WrittenEdgeTests");
    }

    private static void dueView(String about, BoardLetters x, String due) {
        Check.due("length of the view, " + about, x.viewLength(), due.length());
        Check.dueText("view, " + about, Check.view(x), due);
        for (int i : new int[] {due.length(), due.length() + 1, Given.GREATEST_INT}) {
            Check.due("byte " + i + " of the view, " + about, x.viewByte(i), -2);
        }
        for (int i : new int[] {-1, -2, Given.LEAST_INT}) {
            Check.due("byte " + i + " of the view, " + about, x.viewByte(i), -1);
        }
    }

    private static void dueSetup(String about, BoardLetters x, String due) {
        Check.due("length of the setup, " + about, x.setupLength(), due.length());
        Check.dueText("setup, " + about, Check.setup(x), due);
        for (int i : new int[] {due.length(), due.length() + 1, Given.GREATEST_INT}) {
            Check.due("byte " + i + " of the setup, " + about, x.setupByte(i), -2);
        }
        for (int i : new int[] {-1, -2, Given.LEAST_INT}) {
            Check.due("byte " + i + " of the setup, " + about, x.setupByte(i), -1);
        }
    }

    /** Promise 49: "NOT_FOUND if the view is not so long". */
    private static void viewOfOneByteMore() {
        BoardLetters x = Given.plain(2, 1);
        dueView("one row", x, "30:aa a 2\n");
        Check.due("first byte", x.viewByte(0), '3');
        Check.due("last byte", x.viewByte(9), 10);
        Check.due("behind it", x.viewByte(10), -2);
    }

    /** Promise 49: the view is that of the rows as they are now, whichever call asks first. */
    private static void bytesOfAChangedView() {
        BoardLetters x = Given.plain(2, 1);
        Check.due("first byte", x.viewByte(0), '3');
        x.setNumber(Given.INNER, 60);
        Check.due("first byte of a start of 10", x.viewByte(0), '1');
        x.setNumber(Given.INNER, 10);
        Check.due("first byte of a start of 0", x.viewByte(0), '0');
        x.say();
        Check.due("first byte of nothing", x.viewByte(0), -2);
        x.undo();
        Check.due("first byte again", x.viewByte(0), '0');
    }

    private static void viewOfNothing() {
        dueView("no words", Given.plain(), "");
        dueView("no rows", Given.thirteenRows(), "");
        dueView("no words then", Check.loaded(Given.board(100, 100, 2, 10, 3, 8, 1) + NEW_A), "");
    }

    /** Promise 48: a row of one word has no space but the one ahead of its gap. */
    private static void viewOfOneLetter() {
        dueView("one letter", Given.plain(1), "45:a 2\n");
        dueView("two words", Given.plain(1, 1), "35:a a 2\n");
        dueView("twelve letters", Given.plain(12), "0:aaaaaaaaaaaa 2\n");
    }

    private static void viewOfStartsAtTheirEnds() {
        int[] inners = {10, 11, 12, 29, 30, 209, 210, 2009, 2010, 9999};
        int[] starts = {0, 0, 1, 9, 10, 99, 100, 999, 1000, 4994};
        BoardLetters x = Given.plain(1);
        for (int i = 0; i < inners.length; i++) {
            x.setNumber(Given.INNER, inners[i]);
            dueView("INNER " + inners[i], x, starts[i] + ":a 2\n");
        }
    }

    private static void viewOfGapsAtTheirEnds() {
        for (int gap : new int[] {0, 1, 9, 10, 11, 29, 30}) {
            BoardLetters x = Check.loaded(Given.board(10, 100, 2, 30, gap, 8, 1) + Given.even('z', 10, 1, 1));
            Check.say(x, "z");
            dueView("GAP " + gap, x, "0:z " + gap + "\n");
            x.setFill(true);
            dueView("CAP for GAP " + gap, x, "0:z 30\n");
        }
    }

    private static void viewOfTwelveRows() {
        BoardLetters x = Given.plain(Given.same(12, 12));
        dueView("twelve rows", x, "0:aaaaaaaaaaaa 2\n".repeat(12));
        x = Given.plain(Given.same(12, 1));
        x.setNumber(Given.INNER, 10);
        x.setBreak(1);
        dueView("twelve rows of one letter", x, "0:a 2\n".repeat(12));
    }

    /** Promise 51: "NOT_FOUND if the text is not so long". */
    private static void setupOfANewObject() {
        BoardLetters x = new BoardLetters();
        dueSetup("new object", x, "board 100 100 lead 2 cap 10 gap 3 word 8 size 1;" + NEW_A);
        Check.due("first byte", x.setupByte(0), 'b');
        Check.due("last byte", x.setupByte(99), ';');
        Check.due("behind it", x.setupByte(100), -2);
    }

    /** Promise 50: "INTs are in decimal without leading zeros". */
    private static void setupOfNumbersAtTheirEnds() {
        String z = Given.even('z', 1, 0, 9);
        String[] boards = {
            Given.board(10, 1, 0, 1, 0, 0, 1), Given.board(9999, 9999, 99, 30, 30, 99, 9), Given.board(99, 9, 9, 9, 9, 9, 5),
            Given.board(100, 10, 10, 10, 10, 10, 5), Given.board(999, 99, 9, 29, 1, 9, 5), Given.board(1000, 100, 9, 29, 29, 9, 5),
            Given.board(1001, 1000, 90, 20, 20, 90, 5),
        };
        for (String board : boards) {
            dueSetup(board, Check.loaded(board + z), board + z);
        }
        String zeros = "board 0010 0001 lead 0000 cap 0001 gap 00 word 000 size 01;letter z wide 0001 left 00 000 0000 0 0 0 right 09 009 0009 9 9 9;";
        dueSetup("leading zeros", Check.loaded(zeros), boards[0] + z);
        BoardLetters x = new BoardLetters();
        x.setNumber(Given.INNER, 10);
        x.setNumber(Given.HIGH, 9999);
        dueSetup("as they are now", x, "board 10 9999 lead 2 cap 10 gap 3 word 8 size 1;" + NEW_A);
    }

    private static void setupOfInsetsAndWides() {
        String board = Given.board(10, 1, 0, 1, 0, 0, 1);
        String open = "open open open open open open";
        String[] letters = {Given.letter('a', 60, open, open), Given.letter('m', 9, open, Given.side(0)), Given.letter('z', 10, Given.side(9), open)};
        for (String letter : letters) {
            dueSetup(letter, Check.loaded(board + letter), board + letter);
        }
        for (int band = 0; band < 6; band++) {
            String letter = Given.letter('q', 1, Given.side(band, "open", "3"), Given.side(band, "4", "open"));
            dueSetup(letter, Check.loaded(board + letter), board + letter);
        }
    }

    /** Promise 50: "the pairs whose correction is not 0". */
    private static void setupOfPairsAtTheirEnds() {
        String text = "board 100 100 lead 2 cap 10 gap 3 word 8 size 1;" + NEW_A;
        BoardLetters x = new BoardLetters();
        int[] corrections = {-9, -1, 1, 9};
        String[] due = {"closer 9", "closer 1", "wider 1", "wider 9"};
        for (int i = 0; i < due.length; i++) {
            x = new BoardLetters();
            x.correct(0, 0, corrections[i]);
            dueSetup(due[i], x, text + "pair a a " + due[i] + ";");
        }
        x.correct(0, 0, 0);
        Check.due("length without pairs", x.setupLength(), text.length());
        dueSetup("told as 0", Check.loaded(text + "pair a a closer 0;"), text);
        dueSetup("told as 0 at last", Check.loaded(text + "pair a a closer 4;pair a a wider 0;"), text);
    }

    /** Promise 50: "the letters from a to z", and pairs "by their first letters, then by their second ones". */
    private static void setupOfTheLastLetterAndPair() {
        String board = Given.board(10, 1, 0, 1, 0, 0, 1);
        String a = Given.even('a', 1, 0, 0);
        String z = Given.even('z', 1, 0, 0);
        BoardLetters x = Check.loaded(board + z + a + "pair z z wider 1;pair z a wider 2;pair a z wider 3;pair a a wider 4;");
        dueSetup("told from behind", x, board + a + z + "pair a a wider 4;pair a z wider 3;pair z a wider 2;pair z z wider 1;");
    }

    private static void setupHasNoBreakFillAndWords() {
        BoardLetters x = new BoardLetters();
        x.setBreak(1);
        x.setFill(true);
        Check.say(x, "a aa");
        dueSetup("numbers, letters and pairs alone", x, "board 100 100 lead 2 cap 10 gap 3 word 8 size 1;" + NEW_A);
    }
}
