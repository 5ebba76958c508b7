/** Promises 48 to 51: the texts that are written. */
final class WritingTests {
    private static final String A = "letter a wide 10 left 1 1 1 1 1 1 right 1 1 1 1 1 1;";

    public static void main(String[] args) {
        view();
        viewOfNothing();
        viewFilled();
        setup();
        setupOfLettersAndPairs();
        setupIsReadAgain();
        longestSetup();
        Check.finish("WritingTests");
    }

    private static void dueView(BoardLetters x, String due) {
        Check.due("viewLength", x.viewLength(), due.length());
        Check.dueText("view", Check.view(x), due);
        Check.due("behind the view", x.viewByte(due.length()), -2);
        Check.due("far behind the view", x.viewByte(Integer.MAX_VALUE), -2);
        Check.due("viewByte(-1)", x.viewByte(-1), -1);
        Check.due("viewByte(least int)", x.viewByte(Integer.MIN_VALUE), -1);
    }

    private static void dueSetup(BoardLetters x, String due) {
        Check.due("setupLength", x.setupLength(), due.length());
        Check.dueText("setup", Check.setup(x), due);
        Check.due("behind the setup", x.setupByte(due.length()), -2);
        Check.due("far behind the setup", x.setupByte(Integer.MAX_VALUE), -2);
        Check.due("setupByte(-1)", x.setupByte(-1), -1);
        Check.due("setupByte(least int)", x.setupByte(Integer.MIN_VALUE), -1);
    }

    /** Promises 48 and 49. */
    private static void view() {
        BoardLetters x = Check.loaded("board 40 30 lead 2 cap 10 gap 3 word 5 size 1;"
                + "letter a wide 6 left 1 1 1 1 1 1 right 1 1 1 1 1 1;"
                + "letter l wide 2 left 0 0 0 0 0 0 right 0 0 0 0 0 0;"
                + "letter t wide 6 left 0 2 2 2 2 2 right 0 2 2 2 2 open;pair a t closer 1;");
        Check.say(x, "tall\nat  all la ta");
        dueView(x, "1:tall at 3\n5:all la 3\n14:ta 3\n");
        x.setNumber(0, 9999);
        dueView(x, "4955:tall at all la ta 3\n");
        x.setNumber(0, 10);
        dueView(x, "0:tall 3\n0:at 3\n0:all 3\n0:la 3\n0:ta 3\n");
    }

    private static void viewOfNothing() {
        dueView(new BoardLetters(), "");
        BoardLetters x = new BoardLetters();
        Check.say(x, "aaaaaaaaa ".repeat(13));
        dueView(x, "");
    }

    private static void viewFilled() {
        BoardLetters x = new BoardLetters();
        Check.say(x, "a aa aaaaaaaaa");
        x.setFill(true);
        // 90 + 8 (T - 2) is 98 for 3
        dueView(x, "0:a aa 10\n1:aaaaaaaaa 3\n");
        x.setNumber(3, 0);
        // rows are broken for GAP: 10, 11 and 18 fit into one row, but not for 1
        dueView(x, "0:a aa aaaaaaaaa 0\n");
    }

    /** Promises 50 and 51. */
    private static void setup() {
        dueSetup(new BoardLetters(), "board 100 100 lead 2 cap 10 gap 3 word 8 size 1;" + A);
        BoardLetters x = new BoardLetters();
        x.setNumber(0, 9999);
        x.setNumber(1, 1);
        x.setNumber(2, 0);
        x.setNumber(3, 10);
        x.setNumber(4, 99);
        x.setNumber(5, 9);
        x.setBreak(1);
        x.setFill(true);
        Check.say(x, "aa");
        dueSetup(x, "board 9999 1 lead 0 cap 10 gap 10 word 99 size 9;" + A);
        x.correct(0, 0, -9);
        dueSetup(x, "board 9999 1 lead 0 cap 10 gap 10 word 99 size 9;" + A + "pair a a closer 9;");
        x.undo();
        x.correct(0, 0, 1);
        Check.due("length with a wider pair", x.setupLength(), 49 + A.length() + 17);
    }

    private static void setupOfLettersAndPairs() {
        String board = "board 0040\n30 lead 02 cap 30 gap 003 word 5 size 1 ; ";
        String z = "letter z wide 060 left open 1 2 3 4 5 right 9 8 7 6 5 open;";
        String a = "letter a wide 6 left 0 0 0 0 0 0 right 1 1 1 1 1 open ;\n";
        BoardLetters x = Check.loaded(board + z + a + "pair z a closer 3;pair a z wider 09;pair z z closer 0;pair a a wider 1;");
        dueSetup(x, "board 40 30 lead 2 cap 30 gap 3 word 5 size 1;"
                + "letter a wide 6 left 0 0 0 0 0 0 right 1 1 1 1 1 open;"
                + "letter z wide 60 left open 1 2 3 4 5 right 9 8 7 6 5 open;"
                + "pair a a wider 1;pair a z wider 9;pair z a closer 3;");
    }

    private static void setupIsReadAgain() {
        BoardLetters x = new BoardLetters();
        x.correct(0, 0, -4);
        x.setNumber(2, 17);
        String text = Check.setup(x);
        BoardLetters y = new BoardLetters();
        Check.due("load of it", Check.load(y, text), 1);
        Check.dueText("the same again", Check.setup(y), text);
    }

    private static void longestSetup() {
        StringBuilder letters = new StringBuilder("board 9999 9999 lead 99 cap 30 gap 30 word 99 size 9;");
        for (char c = 'a'; c <= 'z'; c++) {
            letters.append("letter ").append(c).append(" wide 60 left 0 0 0 0 0 0 right 9 9 9 9 9 9;");
        }
        BoardLetters x = Check.loaded(letters.toString());
        Check.due("26 letters", x.value(9), 26);
        for (int pair = 0; pair < 350; pair++) {
            x.correct(pair / 26, pair % 26, -9);
        }
        Check.due("length", x.setupLength(), letters.length() + 350 * 18);
        Check.due("last byte", x.setupByte(letters.length() + 350 * 18 - 1), ';');
        Check.due("pair 349 is n l", x.setupByte(letters.length() + 349 * 18 + 5) * 1000 + x.setupByte(letters.length() + 349 * 18 + 7), 110 * 1000 + 108);
    }
}
