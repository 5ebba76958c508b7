import java.util.ArrayList;
import java.util.List;

/** The boundary cases of section 4 and of promises 1 to 6 and 52: the tape and the texts that are read from it. */
final class TextEdgeTests {
    private static final String BOARD = Given.board(40, 30, 2, 10, 3, 5, 1);
    private static final String A = Given.even('a', 6, 1, 1);
    private static final String[] TOKENS = (
            "board 40 30 lead 2 cap 10 gap 3 word 5 size 1 ; "
            + "letter a wide 6 left 1 open 2 3 4 5 right 0 9 8 7 6 open ; "
            + "letter t wide 60 left open 1 2 3 4 5 right 0 0 0 0 0 0 ; "
            + "pair a t closer 1 ; pair t a wider 9 ; pair t t closer 0 ;").split(" ");

    private static final int FIRST_LETTER = 14;
    private static final int FIRST_PAIR = 52;

    public static void main(String[] args) {
        appendToTheEndOfTheTape();
        appendOfTheLeastAndGreatestInts();
        truncateAtBothEnds();
        tapeIsEmptyAfterReading();
        textsOfTheWholeTape();
        textThatEndsTooEarly();
        textThatMayEndHere();
        tokensThatCannotStand();
        whiteSpaceMayStandAnywhere();
        whiteSpaceNeedNotStand();
        bytesBehindTheText();
        bytesAheadOfTheText();
        bytesBetweenTokens();
        keywordsByteByByte();
        intsOfOneToFourDigits();
        intsAtTheirEnds();
        gapIsNotAboveCap();
        letterThatIsToldAlready();
        letterOfTwoSigns();
        pairOfLettersThatAreNotTold();
        pairsAtTheirEnds();
        theLastPairCounts();
        theFirstTokenThatCannotStand();
        loadLeavesBreakFillAndWords();
        loadReplacesPairsAndLetters();
        bytesOfWords();
        twelveLettersAndThirteen();
        thirtyWordsAndThirtyOne();
        wordsOfNothing();
        theFirstByteThatCannotStand();
        errorPositionOfTheLatestCall();
        Check.finish("TextEdgeTests");
    }

    private static void goes(String text, int letters) {
        BoardLetters x = new BoardLetters();
        Check.due("load of \"" + text + "\"", Check.load(x, text), letters);
        Check.due("error position of \"" + text + "\"", x.errorPosition(), -2);
    }

    private static void stops(String text, int position) {
        BoardLetters x = new BoardLetters();
        Check.due("load of \"" + text + "\"", Check.load(x, text), -1);
        Check.due("error position of \"" + text + "\"", x.errorPosition(), position);
    }

    private static void says(String text, int words) {
        BoardLetters x = Check.loaded(BOARD + A + Given.even('t', 6, 1, 1));
        Check.due("say of \"" + text + "\"", Check.say(x, text), words);
        Check.due("error position of \"" + text + "\"", x.errorPosition(), -2);
        Check.due("words of \"" + text + "\"", x.value(11), words);
    }

    private static void saysNot(String text, int position) {
        BoardLetters x = Check.loaded(BOARD + A + Given.even('t', 6, 1, 1));
        Check.due("say of \"" + text + "\"", Check.say(x, text), -1);
        Check.due("error position of \"" + text + "\"", x.errorPosition(), position);
        Check.due("words of \"" + text + "\"", x.value(11), 0);
    }

    private static String join(int from, int to, String between) {
        StringBuilder text = new StringBuilder();
        for (int i = from; i < to; i++) {
            text.append(i == from ? "" : between).append(TOKENS[i]);
        }
        return text.toString();
    }

    private static String textOf(int b) {
        return String.valueOf((char) b);
    }

    private static boolean isWhite(int b) {
        return b == 32 || b == 10;
    }

    private static boolean isSmallLetter(int b) {
        return b >= 'a' && b <= 'z';
    }

    private static boolean isDigit(int b) {
        return b >= '0' && b <= '9';
    }

    // ---- the tape

    /** Promise 2: "INVALID if it would exceed 2000 bytes (nothing is appended)". */
    private static void appendToTheEndOfTheTape() {
        BoardLetters x = new BoardLetters();
        for (int n = 1; n <= 99; n++) {
            Check.due("append " + n, x.append(0, 0, 0, 0, 0), 20 * n);
        }
        Check.due("1980 and 20", x.append(0, 0, 0, 0, 0), 2000);
        Check.due("2000 and 20", x.append(0, 0, 0, 0, 0), -1);
        Check.due("length stays", x.tapeLength(), 2000);
        Check.due("1981", x.truncate(19), 1981);
        Check.due("1981 and 20", x.append(0, 0, 0, 0, 0), -1);
        Check.due("length stays", x.tapeLength(), 1981);
        Check.due("1980", x.truncate(1), 1980);
        Check.due("1980 and 20 again", x.append(0, 0, 0, 0, 0), 2000);
    }

    /** Promise 2: four bytes of each int, whatever its sign is. */
    private static void appendOfTheLeastAndGreatestInts() {
        int[] ints = {Given.LEAST_INT, Given.GREATEST_INT, -1, 0, 0x20202080, 0x2020ff20, 0x20802020};
        int[] places = {0, 0, 0, 0, 3, 2, 1};
        for (int i = 0; i < ints.length; i++) {
            for (int argument = 0; argument < 5; argument++) {
                int[] all = {0x20202020, 0x0a0a0a0a, 0x20202020, 0x0a0a0a0a, 0x20202020};
                all[argument] = ints[i];
                BoardLetters x = new BoardLetters();
                Check.due("append", x.append(all[0], all[1], all[2], all[3], all[4]), 20);
                Check.due("say", x.say(), -1);
                Check.due("place of " + ints[i] + " as argument " + argument, x.errorPosition(), 4 * argument + places[i]);
            }
        }
    }

    /** Promise 3: "0 to the length of the tape". */
    private static void truncateAtBothEnds() {
        BoardLetters x = new BoardLetters();
        Check.due("0 of an empty tape", x.truncate(0), 0);
        for (int wrong : new int[] {1, -1, Given.LEAST_INT, Given.GREATEST_INT}) {
            Check.due(wrong + " of an empty tape", x.truncate(wrong), -1);
        }
        Check.feed(x, "aaa");
        for (int wrong : new int[] {4, -1, Given.LEAST_INT, Given.GREATEST_INT}) {
            Check.due(wrong + " of three bytes", x.truncate(wrong), -1);
            Check.due("length stays", x.tapeLength(), 3);
        }
        Check.due("0 of three bytes", x.truncate(0), 3);
        Check.due("1 of three bytes", x.truncate(1), 2);
        Check.due("all of them", x.truncate(2), 0);
        for (int n = 0; n < 100; n++) {
            x.append(0, 0, 0, 0, 0);
        }
        Check.due("2001 of 2000", x.truncate(2001), -1);
        Check.due("2000 of 2000", x.truncate(2000), 0);
        Check.due("nothing is left", x.say(), 0);
    }

    /** Promises 4, 6 and 52: "The tape is empty afterwards", whatever came of it. */
    private static void tapeIsEmptyAfterReading() {
        String[] texts = {BOARD + A, "board", "", " "};
        for (String text : texts) {
            BoardLetters x = new BoardLetters();
            Check.load(x, text);
            Check.due("tape after load of \"" + text + "\"", x.tapeLength(), 0);
            Check.due("nothing is left of \"" + text + "\"", x.say(), 0);
        }
        String[] words = {"a aa", "b", "", " "};
        for (String text : words) {
            BoardLetters x = new BoardLetters();
            Check.say(x, text);
            Check.due("tape after say of \"" + text + "\"", x.tapeLength(), 0);
            Check.due("nothing is left of \"" + text + "\"", x.load(), -1);
            Check.due("so that it ends too early", x.errorPosition(), 0);
        }
    }

    /** Promise 2: 2000 bytes are a text like any other. */
    private static void textsOfTheWholeTape() {
        String setup = BOARD + A + "pair a a wider 4;";
        goes(" ".repeat(2000 - setup.length()) + setup, 1);
        goes(setup + "\n".repeat(2000 - setup.length()), 1);
        stops(setup.substring(0, setup.length() - 1) + " ".repeat(2001 - setup.length()), 2000);
        stops(" ".repeat(2000), 2000);
        stops(" ".repeat(1999) + "b", 1999);
        says(" ".repeat(1999) + "a", 1);
        says(" ".repeat(2000), 0);
        saysNot("\n".repeat(1999) + "b", 1999);
        saysNot("a".repeat(2000), 12);
    }

    // ---- texts for load()

    /** Section 4: "it is the length of the text if the text ends too early". */
    private static void textThatEndsTooEarly() {
        for (int n = 0; n < TOKENS.length; n++) {
            boolean whole = n > FIRST_LETTER && TOKENS[n - 1].equals(";");
            for (String end : new String[] {"", " ", "\n", " \n "}) {
                String text = join(0, n, " ") + end;
                if (!whole) {
                    stops(text, text.length());
                }
            }
        }
        stops("", 0);
    }

    /** Section 4: { letter } and { pair } may be told not at all. */
    private static void textThatMayEndHere() {
        goes(join(0, TOKENS.length, " "), 2);
        int letters = 0;
        for (int n = FIRST_LETTER + 1; n < TOKENS.length; n++) {
            letters += TOKENS[n - 1].equals("letter") ? 1 : 0;
            if (TOKENS[n - 1].equals(";")) {
                goes(join(0, n, " "), letters);
                goes(join(0, n, "\n") + " \n", letters);
            }
        }
    }

    /** Section 4: in the place of each token, each kind of token that cannot stand there. */
    private static void tokensThatCannotStand() {
        String[] intruders = {"board", "lead", "cap", "gap", "word", "size", "letter", "wide", "left", "right", "open", "pair",
            "closer", "wider", "a", "q", "t", "aa", ";", "100", "10000", "00001", "?", ".", "A", "-", "\t", "\r", "\0", "\u0080", "\u00ff", "\u00e1"};
        for (int n = 0; n < TOKENS.length; n++) {
            String ahead = n == 0 ? "" : join(0, n, " ") + " ";
            for (String intruder : intruders) {
                if (!intruder.matches(mayStand(n))) {
                    stops(ahead + intruder + " " + join(n, TOKENS.length, " "), ahead.length());
                    stops(ahead + intruder, ahead.length());
                }
            }
        }
    }

    /** Which of the intruders may stand in the place of a token. */
    private static String mayStand(int n) {
        String token = TOKENS[n];
        if (n == 1 || n == 2) {
            return "100";
        }
        if (token.equals("letter") || token.equals("pair")) {
            return n == FIRST_LETTER ? "letter" : n <= FIRST_PAIR ? "letter|pair" : "pair";
        }
        if (token.equals("a") || token.equals("t")) {
            return n > FIRST_PAIR ? "a|t" : n == FIRST_LETTER + 1 ? "a|q|t" : "q|t";
        }
        if (token.equals("closer") || token.equals("wider")) {
            return "closer|wider";
        }
        return isInset(n) ? "open" : token;
    }

    private static boolean isInset(int n) {
        for (int i = n; i > n - 7 && i > 0; i--) {
            if (TOKENS[i - 1].equals("left") || TOKENS[i - 1].equals("right")) {
                return n - i < 6;
            }
        }
        return false;
    }

    /** Section 4: "ahead of the first token, between any two tokens and behind the last one". */
    private static void whiteSpaceMayStandAnywhere() {
        for (String white : new String[] {" ", "\n", "  ", "\n\n", " \n", "\n "}) {
            goes(white + join(0, TOKENS.length, white) + white, 2);
        }
        for (int n = 0; n <= TOKENS.length; n++) {
            goes(join(0, n, " ") + " \n \n " + join(n, TOKENS.length, " "), 2);
        }
    }

    /** Section 4: it "may stand": a letter, a digit and a semicolon end each other's tokens, too. */
    private static void whiteSpaceNeedNotStand() {
        for (int n = 1; n < TOKENS.length; n++) {
            char last = TOKENS[n - 1].charAt(TOKENS[n - 1].length() - 1);
            char first = TOKENS[n].charAt(0);
            boolean sameRun = isSmallLetter(last) && isSmallLetter(first) || isDigit(last) && isDigit(first);
            String text = join(0, n, " ") + join(n, TOKENS.length, " ");
            if (!sameRun) {
                goes(text, 2);
            }
        }
        goes("board40 30lead2cap10gap3word5size1;letter a wide6left1open1open1open right1 1 1 1 1 1;pair a a closer1;pair a a wider2;", 1);
    }

    /** Section 4: "nothing else is a token". */
    private static void bytesBehindTheText() {
        String text = BOARD + A;
        for (int b = 0; b < 256; b++) {
            if (isWhite(b)) {
                goes(text + textOf(b), 1);
            } else {
                stops(text + textOf(b), text.length());
                stops(text + "pair a a wider 1;\n" + textOf(b) + " ", text.length() + 18);
            }
        }
    }

    private static void bytesAheadOfTheText() {
        for (int b = 0; b < 256; b++) {
            if (isWhite(b)) {
                goes(textOf(b) + BOARD + A, 1);
            } else {
                stops(textOf(b) + BOARD + A, 0);
                stops("\n" + textOf(b) + BOARD + A, 1);
            }
        }
    }

    /** Section 4: "White space (bytes 32 and 10)" and no other byte stands between tokens. */
    private static void bytesBetweenTokens() {
        for (int b = 0; b < 256; b++) {
            String text = "board" + textOf(b) + "40 30 lead 2" + textOf(b) + "cap 10 gap 3 word 5 size 1;" + A;
            if (isWhite(b)) {
                goes(text, 1);
            } else if (isSmallLetter(b)) {
                stops(text, 0);
            } else if (isDigit(b)) {
                // 040 to 940 for INNER and 20 to 29 for LEAD
                goes(text, 1);
            } else {
                stops(text, 5);
            }
        }
    }

    /** Section 4: a keyword is the whole of a maximal run of letters. */
    private static void keywordsByteByByte() {
        int place = 0;
        String text = join(0, TOKENS.length, " ");
        for (String token : TOKENS) {
            if (token.length() > 1 && isSmallLetter(token.charAt(0))) {
                for (int i = 0; i <= token.length(); i++) {
                    String ahead = text.substring(0, place + i);
                    String behind = text.substring(place + i);
                    stops(ahead + "x" + behind, place);
                    if (i < token.length()) {
                        stops(ahead + behind.substring(1), place);
                        stops(ahead + (char) (behind.charAt(0) == 'z' ? 'y' : behind.charAt(0) + 1) + behind.substring(1), place);
                        stops(ahead + (char) (behind.charAt(0) - 32) + behind.substring(1), place);
                    }
                }
            }
            place += token.length() + 1;
        }
    }

    /** Section 4: "an INT of 1 to 4 digits (perhaps with leading zeros)". */
    private static void intsOfOneToFourDigits() {
        int place = 0;
        String text = join(0, TOKENS.length, " ");
        for (String token : TOKENS) {
            if (isDigit(token.charAt(0))) {
                String ahead = text.substring(0, place);
                String behind = text.substring(place + token.length());
                goes(ahead + "0000".substring(token.length()) + token + behind, 2);
                stops(ahead + "00000".substring(token.length()) + token + behind, place);
                stops(ahead + "0".repeat(40) + token + behind, place);
                stops(ahead + "4294967297" + behind, place);
            }
            place += token.length() + 1;
        }
        goes("board 9999 0001 lead 0 cap 1 gap 0 word 0 size 1;" + A, 1);
        stops("board 10000 1 lead 0 cap 1 gap 0 word 0 size 1;" + A, 6);
        stops("board 09999 1 lead 0 cap 1 gap 0 word 0 size 1;" + A, 6);
    }

    /** Section 4: "an INT out of range", of each number of the board, on both sides of both ends. */
    private static void intsAtTheirEnds() {
        int[] least = {10, 1, 0, 1, 0, 0, 1};
        int[] most = {9999, 9999, 99, 30, 30, 99, 9};
        int[] whats = {0, 1, 2, 6, 3, 4, 5};
        for (int i = 0; i < 7; i++) {
            for (int v : new int[] {least[i] - 1, least[i], most[i], most[i] + 1}) {
                int[] all = {40, 30, 2, 30, 0, 5, 1};
                all[i] = v;
                String text = Given.board(all[0], all[1], all[2], all[3], all[4], all[5], all[6]) + A;
                if (v >= least[i] && v <= most[i]) {
                    goes(text, 1);
                    Check.due("number " + i, Check.loaded(text).value(whats[i]), v);
                } else {
                    stops(text, placeOf(i, all));
                }
            }
        }
    }

    private static int placeOf(int number, int... all) {
        String[] ahead = {"board ", " ", " lead ", " cap ", " gap ", " word ", " size "};
        int place = 0;
        for (int i = 0; i <= number; i++) {
            place += ahead[i].length() + (i < number ? String.valueOf(all[i]).length() : 0);
        }
        return place;
    }

    /** Section 4: "GAP 0 to CAP". */
    private static void gapIsNotAboveCap() {
        for (int cap : new int[] {1, 2, 29, 30}) {
            String ahead = "board 40 30 lead 2 cap " + cap + " gap ";
            goes(ahead + "0 word 5 size 1;" + A, 1);
            goes(ahead + cap + " word 5 size 1;" + A, 1);
            stops(ahead + (cap + 1) + " word 5 size 1;" + A, ahead.length());
        }
        // a CAP that was read ahead of a refused text does not stay
        BoardLetters x = new BoardLetters();
        Check.due("refused", Check.load(x, "board 40 30 lead 2 cap 30 gap 31"), -1);
        Check.due("CAP", x.value(6), 10);
        Check.due("GAP above CAP", x.setNumber(Given.GAP, 11), -1);
        Check.due("refused again", Check.load(x, "board 40 30 lead 2 cap 1 gap 2"), -1);
        Check.due("GAP of CAP", x.setNumber(Given.GAP, 10), 3);
        Check.due("accepted", Check.load(x, "board 40 30 lead 2 cap 1 gap 1 word 5 size 1;" + A), 1);
        Check.due("GAP above the new CAP", x.setNumber(Given.GAP, 2), -1);
    }

    /** Section 4: "the LETTER of a letter that is told already". */
    private static void letterThatIsToldAlready() {
        String text = BOARD + A + Given.even('t', 6, 1, 1);
        stops(text + A, text.length() + 7);
        stops(text + Given.even('t', 6, 1, 1), text.length() + 7);
        stops(BOARD + A + A, BOARD.length() + A.length() + 7);
        goes(text + Given.even('b', 6, 1, 1) + Given.even('z', 6, 1, 1), 4);
        // told by an earlier text or at first is not told already
        BoardLetters x = new BoardLetters();
        Check.due("a again", Check.load(x, BOARD + A), 1);
        Check.due("and again", Check.load(x, BOARD + A), 1);
        Check.due("refused behind a", Check.load(x, BOARD + A + "letter b wide 0"), -1);
        Check.due("b, told by a refused text", Check.load(x, BOARD + Given.even('b', 6, 1, 1)), 1);
    }

    /** Section 4: "a LETTER, if it has one letter alone". */
    private static void letterOfTwoSigns() {
        stops(BOARD + Given.even('a', 6, 1, 1).replace("letter a", "letter ab"), BOARD.length() + 7);
        stops(BOARD + Given.even('a', 6, 1, 1).replace("letter a", "letter open"), BOARD.length() + 7);
        stops(BOARD + Given.even('a', 6, 1, 1).replace("letter a", "letter"), BOARD.length() + 7);
        stops(BOARD + A + "pair aa a wider 1;", BOARD.length() + A.length() + 5);
        stops(BOARD + A + "pair a aa wider 1;", BOARD.length() + A.length() + 7);
        stops(BOARD + A + "pair a wider 1;", BOARD.length() + A.length() + 7);
        goes(BOARD + Given.even('z', 6, 1, 1) + "pair z z wider 1;", 1);
    }

    /** Section 4: "the LETTER of a pair that is not told". */
    private static void pairOfLettersThatAreNotTold() {
        int n = BOARD.length() + A.length();
        for (char sign : new char[] {'b', 'z'}) {
            stops(BOARD + A + "pair " + sign + " a wider 1;", n + 5);
            stops(BOARD + A + "pair a " + sign + " wider 1;", n + 7);
            stops(BOARD + A + "pair " + sign + " " + sign + " wider 1;", n + 5);
        }
        // a is told on a new object, but not by this text
        String text = BOARD + Given.even('b', 6, 1, 1);
        stops(text + "pair a b wider 1;", text.length() + 5);
        stops(text + "pair b a wider 1;", text.length() + 7);
    }

    /** Section 4: "closer (its correction is below 0) or wider by an INT (0 to 9)". */
    private static void pairsAtTheirEnds() {
        int n = BOARD.length() + A.length();
        for (int by : new int[] {0, 1, 9}) {
            Check.due("closer " + by, Check.loaded(BOARD + A + "pair a a closer " + by + ";").correction(0, 0), 9 - by);
            Check.due("wider " + by, Check.loaded(BOARD + A + "pair a a wider " + by + ";").correction(0, 0), 9 + by);
        }
        stops(BOARD + A + "pair a a closer 10;", n + 16);
        stops(BOARD + A + "pair a a wider 10;", n + 15);
        stops(BOARD + A + "pair a a wider 9999;", n + 15);
        stops(BOARD + A + "pair a a wider -1;", n + 15);
    }

    /** Section 4: "of one pair the last one counts", also if it is 0. */
    private static void theLastPairCounts() {
        String[] told = {"closer 9", "wider 9", "wider 0", "closer 0", "closer 1", "wider 1"};
        int[] due = {0, 18, 9, 9, 8, 10};
        for (int first = 0; first < told.length; first++) {
            for (int last = 0; last < told.length; last++) {
                String text = BOARD + A + Given.even('t', 6, 1, 1) + "pair a t " + told[first] + ";pair t a wider 5;pair a t " + told[last] + ";";
                BoardLetters x = Check.loaded(text);
                Check.due("last of two", x.correction(0, 19), due[last]);
                Check.due("the other way", x.correction(19, 0), 14);
                Check.due("pairs that are not 0", x.value(10), due[last] == 9 ? 1 : 2);
            }
        }
    }

    /** Section 4: "of the first token that cannot stand where it stands". */
    private static void theFirstTokenThatCannotStand() {
        stops("board 9 0 lead 100", 6);
        stops("board 10 0 lead 100 ?", 9);
        stops("? board", 0);
        stops(BOARD + "letter a wide 0 left 10", BOARD.length() + 14);
        stops(BOARD + A + "pair b c wider 10", BOARD.length() + A.length() + 5);
        stops(BOARD + A + "pair a c wider 10", BOARD.length() + A.length() + 7);
        stops(BOARD + A + "pair a a wider 10 ?", BOARD.length() + A.length() + 15);
        stops(BOARD + A + "pair a a wider 1; ; pair", BOARD.length() + A.length() + 18);
    }

    /** Section 4: "BREAK is 0, FILL is off, and there are no words then." */
    private static void loadLeavesBreakFillAndWords() {
        BoardLetters x = new BoardLetters();
        x.setBreak(1);
        x.setFill(true);
        Check.say(x, "a aa");
        Check.due("rows ahead of it", x.value(12), 1);
        Check.due("load", Check.load(x, BOARD + A), 1);
        Check.due("BREAK", x.value(7), 0);
        Check.due("FILL", x.value(8), 0);
        Check.due("words", x.value(11), 0);
        Check.due("rows", x.value(12), 0);
        Check.due("view", x.viewLength(), 0);
        Check.due("row 0", x.row(0, 0), -1);
        Check.due("letters in them", x.letter(0, 4), 0);
        Check.due("so already", x.setBreak(0), -2);
        Check.due("off already", x.setFill(false), -2);
    }

    /** Promise 4: "On success everything is replaced", whatever was told by calls and texts ahead of it. */
    private static void loadReplacesPairsAndLetters() {
        String t = Given.even('t', 6, 1, 1);
        BoardLetters x = new BoardLetters();
        x.correct(0, 0, 5);
        Check.say(x, "a aa");
        Check.due("pairs that were corrected", Check.load(x, BOARD + A + t), 2);
        Check.due("pairs", x.value(10), 0);
        Check.due("pairs that were told", Check.load(x, BOARD + A + t + "pair a a wider 1;pair a t wider 2;pair t t closer 3;"), 2);
        Check.due("pairs", x.value(10), 3);
        Check.due("pairs that a refused text told", Check.load(x, BOARD + A + t + "pair t a wider 4;?"), -1);
        Check.due("pairs stay", x.value(10), 3);
        Check.due("no pairs", Check.load(x, BOARD + A + t), 2);
        Check.due("pairs", x.value(10), 0);
        Check.due("distance", x.distance(0, 0, 3), 10);
        Check.due("one letter", Check.load(x, BOARD + t), 1);
        Check.due("a", x.letter(0, 0), -1);
    }

    // ---- texts for say()

    /** Section 4: "one that is neither a letter that is told nor white space". */
    private static void bytesOfWords() {
        for (int b = 0; b < 256; b++) {
            if (b == 'a' || b == 't') {
                says(textOf(b), 1);
                says("a" + textOf(b) + "a", 1);
            } else if (isWhite(b)) {
                says(textOf(b), 0);
                says("a" + textOf(b) + "a", 2);
            } else {
                saysNot(textOf(b), 0);
                saysNot("a" + textOf(b) + "a", 1);
                saysNot("a \n" + textOf(b), 3);
            }
        }
    }

    /** Section 4: "the 13th letter of a word". */
    private static void twelveLettersAndThirteen() {
        String twelve = "a".repeat(12);
        says(twelve, 1);
        says(twelve + " " + twelve, 2);
        saysNot(twelve + "a", 12);
        saysNot(twelve + "a a", 12);
        saysNot(twelve + " " + twelve + "t", 25);
        saysNot(twelve + "\n" + twelve + "\nt" + twelve, 38);
        says(twelve + " a", 2);
        saysNot(" " + "a".repeat(400), 13);
    }

    /** Section 4: "the first letter of a 31st word". */
    private static void thirtyWordsAndThirtyOne() {
        says("a ".repeat(29) + "a", 30);
        says("a ".repeat(30), 30);
        says("a ".repeat(30) + " \n ", 30);
        saysNot("a ".repeat(31), 60);
        saysNot("a ".repeat(30) + "\n\n t", 63);
        saysNot("a ".repeat(30) + "aaaaaaaaaaaaaaaa", 60);
        saysNot("a ".repeat(60), 60);
        says("aaaaaaaaaaaa ".repeat(30), 30);
        saysNot("aaaaaaaaaaaa ".repeat(30) + "a", 390);
        saysNot("a ".repeat(29) + "a".repeat(13), 58 + 12);
    }

    /** Promise 6: a text without words is none that ends too early. */
    private static void wordsOfNothing() {
        says("", 0);
        says(" ", 0);
        says("\n", 0);
        says(" \n \n", 0);
        BoardLetters x = new BoardLetters();
        Check.say(x, "a aa");
        Check.due("in place of two words", x.say(), 0);
        Check.due("words", x.value(11), 0);
        Check.due("rows", x.value(12), 0);
        Check.due("letters", x.value(13), 0);
    }

    /** Section 4: "the position is that of the first byte that cannot stand". */
    private static void theFirstByteThatCannotStand() {
        saysNot("b?", 0);
        saysNot("a?b", 1);
        saysNot("aaaaaaaaaaaa?a", 12);
        saysNot("aaaaaaaaaaaab", 12);
        saysNot("aaaaaaaaaaa?a", 11);
        saysNot("a ".repeat(30) + "?", 60);
        saysNot("a ".repeat(30) + "b", 60);
        saysNot("a ".repeat(15) + "b" + " a".repeat(20), 30);
    }

    /** Promise 5: "NOT_FOUND if that call succeeded or there was no such call". */
    private static void errorPositionOfTheLatestCall() {
        BoardLetters x = new BoardLetters();
        List<Integer> found = new ArrayList<>();
        found.add(x.errorPosition());
        String[] loads = {"board x", BOARD + A, "boar", BOARD + A};
        for (String text : loads) {
            Check.load(x, text);
            found.add(x.errorPosition());
            Check.say(x, "aa?");
            found.add(x.errorPosition());
            Check.say(x, "aa");
            found.add(x.errorPosition());
            Check.load(x, "");
            found.add(x.errorPosition());
        }
        Check.dueText("error positions", found.toString(), "[-2, 6, 2, -2, 0, -2, 2, -2, 0, 0, 2, -2, 0, -2, 2, -2, 0]");
        Check.say(x, "a?");
        x.append(0, 0, 0, 0, 0);
        x.truncate(20);
        x.setFill(true);
        x.keep(0);
        x.restore(0);
        x.undo();
        Check.due("no other call changes it", x.errorPosition(), 1);
    }
}
