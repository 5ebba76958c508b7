/** Promises 15 to 26: values, letters and pairs, words. */
final class LetterTests {
    /** a and i are alike on both sides; l is flat; t leans; o is open in places. */
    private static final String SIGNS = "board 40 30 lead 2 cap 10 gap 3 word 5 size 1;"
            + "letter a wide 6 left 1 1 1 1 1 1 right 1 1 1 1 1 1;"
            + "letter i wide 3 left 1 1 1 1 1 1 right 0 1 1 1 1 1;"
            + "letter l wide 2 left 0 0 0 0 0 0 right 0 0 0 0 0 0;"
            + "letter o wide 9 left open 9 0 open 1 2 right 3 open 3 3 open open;"
            + "letter t wide 6 left 0 2 2 2 2 2 right 0 2 2 2 2 open;"
            + "letter x wide 5 left 9 9 9 9 9 9 right 9 9 9 9 9 9;"
            + "letter z wide 4 left open 1 1 1 1 open right open 1 1 1 1 open;"
            + "pair a t closer 1;";
    private static final int A = 0;
    private static final int I = 8;
    private static final int L = 11;
    private static final int O = 14;
    private static final int T = 19;
    private static final int X = 23;
    private static final int Z = 25;

    public static void main(String[] args) {
        value();
        inset();
        letter();
        gapAt();
        distance();
        distanceWithCorrection();
        correction();
        extreme();
        mirrored();
        alike();
        word();
        spelled();
        longest();
        Check.finish("LetterTests");
    }

    private static BoardLetters signs() {
        return Check.loaded(SIGNS);
    }

    /** Promise 15. */
    private static void value() {
        BoardLetters x = signs();
        Check.say(x, "ta all to zoo i");
        x.setBreak(1);
        x.setFill(true);
        x.correct(L, L, 3);
        x.correct(A, T, 0);
        x.correct(T, A, -2);
        // widths for GAP 3: ta 11, all 15, to 20 (below), zoo, i 3
        int[] due = {40, 30, 2, 3, 5, 1, 10, 1, 1, 7, 2, 5};
        for (int what = 0; what < due.length; what++) {
            Check.due("value " + what, x.value(what), due[what]);
        }
        Check.due("letters of all words", x.value(13), 11);
        Check.due("value 14", x.value(14), -1);
        Check.due("value -1", x.value(-1), -1);
        Check.due("least int", x.value(Integer.MIN_VALUE), -1);
        Check.due("greatest int", x.value(Integer.MAX_VALUE), -1);
        BoardLetters y = new BoardLetters();
        Check.say(y, "aaaaaaaaa ".repeat(12));
        Check.due("twelve rows", y.value(12), 12);
        Check.say(y, "aaaaaaaaa ".repeat(13));
        Check.due("no rows", y.value(12), 0);
        Check.due("words", y.value(11), 13);
    }

    /** Promise 16. */
    private static void inset() {
        BoardLetters x = signs();
        int[] left = {-2, 9, 0, -2, 1, 2};
        int[] right = {3, -2, 3, 3, -2, -2};
        for (int band = 0; band < 6; band++) {
            Check.due("left " + band, x.inset(O, false, band), left[band]);
            Check.due("right " + band, x.inset(O, true, band), right[band]);
        }
        Check.due("band 6", x.inset(O, true, 6), -1);
        Check.due("band -1", x.inset(O, false, -1), -1);
        Check.due("letter not told", x.inset(1, true, 0), -1);
        Check.due("letter -1", x.inset(-1, true, 0), -1);
        Check.due("letter 26", x.inset(26, true, 0), -1);
    }

    /** Promise 17. */
    private static void letter() {
        BoardLetters x = signs();
        Check.say(x, "oat too ottoo");
        int[] due = {9, 12, 9, 5, 6};
        for (int what = 0; what < 5; what++) {
            Check.due("letter o, " + what, x.letter(O, what), due[what]);
        }
        Check.due("in the text", x.letter(T, 4), 4);
        Check.due("not in the text", x.letter(L, 4), 0);
        Check.say(x, "to t");
        Check.due("in a shorter text", x.letter(T, 4), 2);
        Check.due("o in it", x.letter(O, 4), 1);
        Check.say(x, "tt ".repeat(30));
        Check.due("in thirty words", x.letter(T, 4), 60);
        Check.due("what 5", x.letter(O, 5), -1);
        Check.due("what -1", x.letter(O, -1), -1);
        Check.due("letter not told", x.letter(1, 0), -1);
        Check.due("letter -1", x.letter(-1, 0), -1);
        Check.due("letter 26", x.letter(26, 4), -1);
    }

    /** Promise 18 and section 1. */
    private static void gapAt() {
        BoardLetters x = signs();
        Check.due("a a 0", x.gapAt(A, A, 0), 2);
        Check.due("a a -1", x.gapAt(A, A, -1), 1);
        Check.due("0 at least", x.gapAt(A, A, -9), 0);
        Check.due("CAP at most", x.gapAt(A, A, 9), 10);
        Check.due("far off", x.gapAt(A, A, 99), 10);
        // 1 + (1 + 2) * 5 = 16, cut: 2
        Check.due("a t 0", x.gapAt(A, T, 0), 2);
        // 0 of -1 + 0 + 0, 2 five times less one that is open: 0 + 4 * (2 - 1 + 1) + 10 = 18
        Check.due("t a -1", x.gapAt(T, A, -1), 3);
        Check.due("a t has no correction here", x.gapAt(A, T, 1), 3);
        // each band is 0 at least by itself: 0 + (2 - 3 + 2) * 4 + 10 = 14
        Check.due("t t -3", x.gapAt(T, T, -3), 2);
        // bands: open, open, 3 + 0, open, open, open: 53
        Check.due("o o 0", x.gapAt(O, O, 0), 8);
        Check.due("o o 7", x.gapAt(O, O, 7), 10);
        Check.due("order of the two", x.gapAt(I, L, 1) * 100 + x.gapAt(L, I, 1), 102);
        Check.due("x x -9", x.gapAt(X, X, -9), 9);
        Check.due("d -10", x.gapAt(A, A, -10), -1);
        Check.due("d 100", x.gapAt(A, A, 100), -1);
        Check.due("greatest d", x.gapAt(A, A, Integer.MAX_VALUE), -1);
        Check.due("first not told", x.gapAt(1, A, 0), -1);
        Check.due("second not told", x.gapAt(A, 1, 0), -1);
        Check.due("letter 26", x.gapAt(26, A, 0), -1);
        Check.due("letter -1", x.gapAt(A, -1, 0), -1);
    }

    /** Promise 19 and section 1. */
    private static void distance() {
        BoardLetters x = signs();
        Check.due("a a 3", x.distance(A, A, 3), 10);
        Check.due("a a 0", x.distance(A, A, 0), 0);
        Check.due("a a 1", x.distance(A, A, 1), 8);
        Check.due("a a CAP", x.distance(A, A, 10), 17);
        Check.due("l l CAP", x.distance(L, L, 10), 19);
        Check.due("x x 9", x.distance(X, X, 9), 0);
        Check.due("x x CAP", x.distance(X, X, 10), 1);
        Check.due("t a 3", x.distance(T, A, 3), 8);
        Check.due("z z 3", x.distance(Z, Z, 3), 0);
        // two open bands count 20, so that 24 asks for 1 in each of the others
        Check.due("z z 4", x.distance(Z, Z, 4), 8);
        Check.due("gap -1", x.distance(A, A, -1), -1);
        Check.due("gap above CAP", x.distance(A, A, 11), -1);
        Check.due("first not told", x.distance(1, A, 3), -1);
        Check.due("second not told", x.distance(A, 1, 3), -1);
        Check.due("letter 26", x.distance(A, 26, 3), -1);
        Check.due("letter -1", x.distance(-1, A, 3), -1);
    }

    private static void distanceWithCorrection() {
        BoardLetters x = signs();
        Check.due("a t 3", x.distance(A, T, 3), 9);
        Check.due("t l 3", x.distance(T, L, 3), 9);
        x.correct(A, A, 9);
        Check.due("wider", x.distance(A, A, 3), 19);
        Check.due("wider beyond CAP", x.distance(A, A, 10), 26);
        x.correct(A, A, -9);
        Check.due("closer", x.distance(A, A, 10), 8);
        Check.due("-9 at least", x.distance(A, A, 3), 1);
        Check.due("-9 at least, beyond it", x.distance(A, A, 1), 0);
        x.correct(X, X, 4);
        Check.due("from -9", x.distance(X, X, 9), 4);
    }

    /** Promise 20. */
    private static void correction() {
        BoardLetters x = signs();
        Check.due("a t", x.correction(A, T), 8);
        Check.due("t a", x.correction(T, A), 9);
        x.correct(T, A, 9);
        Check.due("t a then", x.correction(T, A), 18);
        Check.due("first not told", x.correction(1, A), -1);
        Check.due("second not told", x.correction(A, 1), -1);
        Check.due("letter 26", x.correction(26, A), -1);
        Check.due("letter -1", x.correction(A, -1), -1);
    }

    /** Promise 21. */
    private static void extreme() {
        BoardLetters x = Check.loaded("board 40 30 lead 2 cap 10 gap 3 word 5 size 1;"
                + "letter c wide 6 left 1 1 1 1 1 1 right 2 2 2 2 2 2;"
                + "letter f wide 6 left 2 2 2 2 2 2 right 1 1 1 1 1 1;");
        // distances for 3: cc 0, cf -1, fc 1, ff 0
        Check.due("least", x.extreme(false), 26 * 2 + 5);
        Check.due("greatest", x.extreme(true), 26 * 5 + 2);
        x.correct(2, 2, 1);
        Check.due("of several the smallest", x.extreme(true), 26 * 2 + 2);
        x.correct(5, 5, -1);
        Check.due("of several the smallest again", x.extreme(false), 26 * 2 + 5);
        x.correct(5, 5, -2);
        Check.due("with corrections", x.extreme(false), 26 * 5 + 5);
        x.setNumber(3, 0);
        Check.due("for GAP", x.extreme(false), 26 * 2 + 5);
        Check.due("one letter alone", Check.loaded("board 40 30 lead 2 cap 10 gap 3 word 5 size 1;"
                + "letter z wide 6 left 1 1 1 1 1 1 right 2 2 2 2 2 2;").extreme(true), 26 * 25 + 25);
    }

    /** Promise 22. */
    private static void mirrored() {
        BoardLetters x = signs();
        Check.dueTruth("a", x.mirrored(A), true);
        Check.dueTruth("i", x.mirrored(I), false);
        Check.dueTruth("o", x.mirrored(O), false);
        Check.dueTruth("t, open on one side", x.mirrored(T), false);
        Check.dueTruth("z, open in the same bands", x.mirrored(Z), true);
        Check.dueTruth("not told", x.mirrored(1), false);
        Check.dueTruth("-1", x.mirrored(-1), false);
        Check.dueTruth("26", x.mirrored(26), false);
    }

    /** Promise 23. */
    private static void alike() {
        BoardLetters x = signs();
        Check.due("left of a", x.alike(A, false), 1);
        Check.due("left of i", x.alike(I, false), 1);
        Check.due("right of a", x.alike(A, true), 0);
        Check.due("left of z", x.alike(Z, false), 0);
        Check.due("not told", x.alike(1, true), -1);
        Check.due("-1", x.alike(-1, true), -1);
        Check.due("26", x.alike(26, false), -1);
        BoardLetters y = Check.loaded("board 40 30 lead 2 cap 10 gap 3 word 5 size 1;"
                + "letter b wide 1 left 0 0 0 0 0 0 right open 1 1 1 1 open;"
                + "letter c wide 2 left 1 1 1 1 1 1 right open 1 1 1 1 open;"
                + "letter d wide 3 left open 1 1 1 1 open right open 1 1 1 1 open;"
                + "letter e wide 3 left open 1 1 1 1 open right open 1 1 1 1 0;");
        Check.due("right of b", y.alike(1, true), 2);
        Check.due("left of d", y.alike(3, false), 1);
        Check.due("right of e", y.alike(4, true), 0);
        Check.due("left of b, a right side does not count", y.alike(1, false), 0);
    }

    /** Promise 24: with GAP 2 a word of n letters a is 10 n wide. */
    private static void word() {
        BoardLetters x = new BoardLetters();
        x.setNumber(3, 2);
        x.setNumber(4, 10);
        x.setNumber(5, 3);
        x.setNumber(0, 200);
        // rows of 120, of 90 and 60 and a space of 30, of 60
        Check.say(x, "aaaa aaa aa aa");
        int[][] due = {{4, 120, 0, 0}, {3, 90, 1, 0}, {2, 60, 1, 1}, {2, 60, 2, 0}};
        for (int i = 0; i < 4; i++) {
            for (int what = 0; what < 4; what++) {
                Check.due("word " + i + ", " + what, x.word(i, what), due[i][what]);
            }
        }
        Check.due("what 4", x.word(0, 4), -1);
        Check.due("what -1", x.word(0, -1), -1);
        Check.due("word 4", x.word(4, 0), -1);
        Check.due("word -1", x.word(-1, 0), -1);
        x.setFill(true);
        Check.due("for GAP also if FILL is on", x.word(3, 1), 60);
        Check.say(x, "aaaaaaaaa ".repeat(13));
        Check.due("width without rows", x.word(12, 1), 270);
        Check.due("row without rows", x.word(12, 2), -2);
        Check.due("row of the first word without rows", x.word(0, 2), -2);
        Check.due("place of the first word without rows", x.word(0, 3), -2);
        Check.due("place without rows", x.word(12, 3), -2);
        Check.due("invalid without rows", x.word(13, 2), -1);
        BoardLetters y = Check.loaded("board 40 30 lead 2 cap 10 gap 0 word 5 size 7;letter i wide 1 left 1 1 1 1 1 1 right 1 1 1 1 1 1;");
        Check.say(y, "iii");
        Check.due("1 at least", y.word(0, 1), 7);
        y = Check.loaded("board 40 30 lead 2 cap 3 gap 0 word 5 size 7;letter i wide 1 left 9 9 9 9 9 9 right 9 9 9 9 9 9;");
        Check.say(y, "iii");
        for (int gap = 0; gap <= 3; gap++) {
            y.setNumber(3, gap);
            Check.due("1 at least for " + gap, y.word(0, 1), 7);
        }
    }

    /** Promise 25. */
    private static void spelled() {
        BoardLetters x = signs();
        Check.say(x, "tax a");
        int[] due = {T, A, X, -2};
        for (int k = 0; k < 4; k++) {
            Check.due("letter " + k, x.spelled(0, k), due[k]);
        }
        Check.due("second word", x.spelled(1, 0), A);
        Check.due("beyond it", x.spelled(1, 1), -2);
        Check.due("far beyond it", x.spelled(1, Integer.MAX_VALUE), -2);
        Check.due("k -1", x.spelled(0, -1), -1);
        Check.due("word 2", x.spelled(2, 0), -1);
        Check.due("word -1", x.spelled(-1, 0), -1);
        Check.due("no such word ahead of not so many", x.spelled(2, 99), -1);
    }

    /** Promise 26. */
    private static void longest() {
        BoardLetters x = signs();
        Check.due("without words", x.longest(), -2);
        Check.say(x, "la ta tt tt lll");
        // la 2 + 2 + 6, ta 6 - 1 + 6, tt 6 - 2 + 6, lll 6 + 6
        Check.due("the greatest width", x.longest(), 4);
        x.setNumber(3, 0);
        // all distances are -9 for 0, so that two wide letters win
        Check.due("for GAP", x.longest(), 1);
        Check.say(x, "l a x a i");
        Check.due("of several the first one", x.longest(), 1);
        Check.say(x, "il li ll");
        Check.due("all 1 wide", x.longest(), 0);
    }
}
