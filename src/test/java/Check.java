/** What the tests share: comparing answers with what is due, and putting texts on the tape. */
final class Check {
    private static int wrong = 0;
    private static int counted = 0;

    private Check() {
    }

    static void due(String call, long got, long want) {
        counted++;
        if (got != want) {
            report(call, String.valueOf(got), String.valueOf(want));
        }
    }

    static void dueTruth(String call, boolean got, boolean want) {
        counted++;
        if (got != want) {
            report(call, String.valueOf(got), String.valueOf(want));
        }
    }

    static void dueReal(String call, double got, double want) {
        counted++;
        if (Double.compare(got, want) != 0) {
            report(call, String.valueOf(got), String.valueOf(want));
        }
    }

    static void dueText(String call, String got, String want) {
        counted++;
        if (!got.equals(want)) {
            report(call, got, want);
        }
    }

    private static void report(String call, String got, String want) {
        wrong++;
        System.out.println(call + " answered " + got + ", due is " + want);
    }

    /** Ends the test with exit code 1 if an answer was not as due, or if nothing was asked at all. */
    static void finish(String test) {
        System.out.println(test + ": " + counted + " answers, " + wrong + " not as due");
        if (wrong != 0 || counted == 0) {
            System.exit(1);
        }
    }

    /** Puts a text on the tape by whole appends and takes the rest of the last one off again. */
    static void feed(BoardLetters x, String text) {
        int start = x.tapeLength();
        for (int i = 0; i < text.length(); i += 20) {
            x.append(four(text, i), four(text, i + 4), four(text, i + 8), four(text, i + 12), four(text, i + 16));
        }
        x.truncate(x.tapeLength() - start - text.length());
    }

    static int four(String text, int from) {
        int bits = 0;
        for (int i = from; i < from + 4; i++) {
            bits = bits << 8 | (i < text.length() ? text.charAt(i) & 255 : 0);
        }
        return bits;
    }

    static int load(BoardLetters x, String text) {
        feed(x, text);
        return x.load();
    }

    static int say(BoardLetters x, String text) {
        feed(x, text);
        return x.say();
    }

    static BoardLetters loaded(String text) {
        BoardLetters x = new BoardLetters();
        load(x, text);
        return x;
    }

    /** The view, of at most some 500 bytes: more calls than that an object does not bear. */
    static String view(BoardLetters x) {
        StringBuilder text = new StringBuilder();
        int length = x.viewLength();
        for (int i = 0; i < length; i++) {
            text.append((char) x.viewByte(i));
        }
        return text.toString();
    }

    static String setup(BoardLetters x) {
        StringBuilder text = new StringBuilder();
        int length = x.setupLength();
        for (int i = 0; i < length; i++) {
            text.append((char) x.setupByte(i));
        }
        return text.toString();
    }
}
