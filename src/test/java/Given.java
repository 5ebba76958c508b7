/** What the tests of edges start from. */
final class Given {
    static final int INNER = 0;
    static final int HIGH = 1;
    static final int LEAD = 2;
    static final int GAP = 3;
    static final int WORD = 4;
    static final int SIZE = 5;

    static final int LEAST_INT = Integer.MIN_VALUE;
    static final int GREATEST_INT = Integer.MAX_VALUE;

    private Given() {
    }

    /** INNER 100, and with GAP 2 a word of n letters a is 10 n wide and words are 10 apart. */
    static BoardLetters plain(int... lengths) {
        BoardLetters x = new BoardLetters();
        x.setNumber(GAP, 2);
        x.setNumber(WORD, 10);
        Check.say(x, words(lengths));
        return x;
    }

    static BoardLetters broken(int how, int... lengths) {
        BoardLetters x = plain(lengths);
        x.setBreak(how);
        return x;
    }

    static BoardLetters filled(int... lengths) {
        BoardLetters x = plain(lengths);
        x.setFill(true);
        return x;
    }

    /** One row more than there can be. */
    static BoardLetters thirteenRows() {
        return plain(same(13, 9));
    }

    static int[] same(int count, int length) {
        int[] lengths = new int[count];
        java.util.Arrays.fill(lengths, length);
        return lengths;
    }

    static String words(int... lengths) {
        StringBuilder text = new StringBuilder();
        for (int length : lengths) {
            text.append("a".repeat(length)).append(' ');
        }
        return text.toString();
    }

    static String board(int inner, int high, int lead, int cap, int gap, int word, int size) {
        return "board " + inner + " " + high + " lead " + lead + " cap " + cap + " gap " + gap
                + " word " + word + " size " + size + ";";
    }

    static String letter(char sign, int wide, String left, String right) {
        return "letter " + sign + " wide " + wide + " left " + left + " right " + right + ";";
    }

    /** A letter with the same inset in all bands of a side. */
    static String even(char sign, int wide, int left, int right) {
        return letter(sign, wide, side(left), side(right));
    }

    static String side(int inset) {
        return (inset + " ").repeat(6).trim();
    }

    /** A side with an inset in one band and another one in the five others. */
    static String side(int band, String inset, String other) {
        StringBuilder text = new StringBuilder();
        for (int i = 0; i < 6; i++) {
            text.append(i == 0 ? "" : " ").append(i == band ? inset : other);
        }
        return text.toString();
    }

    /** The numbers of words in all rows, in a line. */
    static String rowsOf(BoardLetters x) {
        StringBuilder text = new StringBuilder();
        for (int row = 0; row < x.value(12); row++) {
            text.append(text.length() == 0 ? "" : " ").append(x.row(row, 1));
        }
        return text.toString();
    }
}
