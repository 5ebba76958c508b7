import java.util.ArrayList;
import java.util.List;

/** Objects in several states, and all that can be asked of them, to tell whether a call has changed anything. */
final class Traces {
    /** What a trace asks for; each one is taken of an object of its own, as some of them change it. */
    enum Kind { VALUES, LETTERS, ROWS, FITS, SETUP, UNDO, SLOTS, TAPE, ERROR }

    /** a and t are told beside o and z, which are open in places; c, s and y are among those that are not told. */
    private static final String SETUP = Given.board(60, 40, 3, 12, 3, 4, 1)
            + Given.letter('a', 10, "1 1 1 1 1 1", "1 1 1 1 1 1") + Given.letter('o', 9, "open 2 0 0 2 open", "open 2 0 0 2 open")
            + Given.letter('t', 8, "0 3 3 3 3 3", "0 3 3 3 3 open") + Given.letter('z', 7, "0 0 0 0 0 0", "9 9 9 9 9 9")
            + "pair a t closer 2;pair t a wider 3;";

    static final int[] TOLD = {0, 14, 19, 25};
    static final int[] UNTOLD = {-1, 26, 1, 2, 13, 18, 20, 24, Given.LEAST_INT, Given.GREATEST_INT};

    private Traces() {
    }

    /** The states that calls are made in. */
    enum State {
        NEW(0, 0, 0), WORDS(8, 4, 4), ASKED(8, 4, 4), FILLED(8, 4, 4), CHEAP(8, 4, 4), ROWLESS(30, 0, 4), WHOLE_TAPE(0, 0, 2000);

        final int words;
        final int rows;
        final int tape;

        State(int words, int rows, int tape) {
            this.words = words;
            this.rows = rows;
            this.tape = tape;
        }

        boolean hasLetters() {
            return this != NEW && this != WHOLE_TAPE;
        }
    }

    static BoardLetters make(State state) {
        BoardLetters x = new BoardLetters();
        if (state == State.NEW) {
            return x;
        }
        if (state == State.WHOLE_TAPE) {
            for (int n = 0; n < 100; n++) {
                x.append(0x61616120, 0x61612061, 0x20612020, 0x20202020, 0x20200a20);
            }
            return x;
        }
        Check.load(x, SETUP);
        Check.say(x, "a");
        x.setNumber(Given.LEAD, 5);
        Check.say(x, state == State.ROWLESS ? "tatatata ".repeat(30) : "tat a zoo otto at aaaaaa o to");
        x.keep(1);
        x.correct(25, 25, -1);
        x.setFill(state == State.FILLED);
        x.setBreak(state == State.CHEAP ? 1 : 0);
        x.swap(0, 1);
        Check.say(x, "to?");
        Check.feed(x, "at o");
        if (state == State.ASKED) {
            x.value(12);
            x.viewByte(0);
            x.bestSwap();
        }
        return x;
    }

    /** An object that has read a text and refused it is due to be like this one but for the error position. */
    static BoardLetters makeWithoutTape(State state) {
        BoardLetters x = make(state);
        x.truncate(x.tapeLength());
        return x;
    }

    static List<Object> of(Kind kind, BoardLetters x) {
        List<Object> answers = new ArrayList<>();
        switch (kind) {
            case VALUES:
                addValues(answers, x);
                break;
            case LETTERS:
                addLetters(answers, x);
                break;
            case ROWS:
                addRows(answers, x);
                break;
            case FITS:
                addFits(answers, x);
                break;
            case SETUP:
                answers.add(Check.setup(x));
                break;
            case UNDO:
                addUndone(answers, x);
                break;
            case SLOTS:
                addSlots(answers, x);
                break;
            case TAPE:
                addTape(answers, x);
                break;
            default:
                answers.add(x.errorPosition());
                break;
        }
        return answers;
    }

    private static void addValues(List<Object> answers, BoardLetters x) {
        for (int what = -1; what < 15; what++) {
            answers.add(x.value(what));
        }
        for (int word = 0; word < 31; word++) {
            for (int what = 0; what < 4; what++) {
                answers.add(x.word(word, what));
            }
            answers.add(x.spelled(word, 0));
            answers.add(x.spelled(word, 2));
        }
    }

    private static void addLetters(List<Object> answers, BoardLetters x) {
        for (int letter = 0; letter < 26; letter++) {
            answers.add(x.letter(letter, 0));
        }
        for (int letter : TOLD) {
            for (int what = 1; what < 5; what++) {
                answers.add(x.letter(letter, what));
            }
            for (int band = 0; band < 6; band++) {
                answers.add(x.inset(letter, false, band));
                answers.add(x.inset(letter, true, band));
            }
            answers.add(x.mirrored(letter));
            answers.add(x.alike(letter, true));
            for (int other : TOLD) {
                answers.add(x.correction(letter, other));
                answers.add(x.gapAt(letter, other, 1));
                answers.add(x.distance(letter, other, 4));
                answers.add(x.distance(letter, other, 11));
            }
        }
        answers.add(x.extreme(true));
        answers.add(x.extreme(false));
    }

    private static void addRows(List<Object> answers, BoardLetters x) {
        for (int row = 0; row < 5; row++) {
            for (int what = 0; what < 9; what++) {
                answers.add(x.row(row, what));
            }
            for (int i = 0; i < 10; i++) {
                answers.add(x.letterAt(row, i));
                answers.add(x.place(row, i));
                answers.add(x.gap(row, i));
                answers.add(x.white(row, i, 2));
                answers.add(x.at(row, 5 * i));
            }
            answers.add(x.uneven(row));
            answers.add(x.touches(row));
            answers.add(x.fillGap(row));
            answers.add(x.full(row));
        }
    }

    private static void addFits(List<Object> answers, BoardLetters x) {
        answers.add(x.fits());
        answers.add(x.bestSize());
        answers.add(x.bestGap());
        for (int rows = 1; rows <= 12; rows++) {
            answers.add(x.leastInner(rows));
        }
        answers.add(x.height());
        answers.add(x.cost());
        answers.add(x.leastCost());
        answers.add(x.bestSwap());
        answers.add(x.longest());
        answers.add(x.widest(true));
        answers.add(x.widest(false));
        answers.add(x.meanGap());
        answers.add(Check.view(x));
    }

    private static void addUndone(List<Object> answers, BoardLetters x) {
        for (int n = 0; n < 10; n++) {
            answers.add(x.undo());
            for (int what = 0; what < 14; what++) {
                answers.add(x.value(what));
            }
            answers.add(x.correction(0, 19));
            answers.add(x.correction(25, 25));
            answers.add(x.word(0, 0));
            answers.add(x.word(1, 1));
            answers.add(x.viewLength());
            answers.add(x.tapeLength());
        }
    }

    private static void addSlots(List<Object> answers, BoardLetters x) {
        for (int slot = 0; slot < 2; slot++) {
            answers.add(x.restore(slot));
            for (int what = 0; what < 14; what++) {
                answers.add(x.value(what));
            }
            for (int word = 0; word < 8; word++) {
                answers.add(x.word(word, 1));
            }
            for (int pair = 0; pair < 16; pair++) {
                answers.add(x.correction(TOLD[pair / 4], TOLD[pair % 4]));
            }
            answers.add(x.undo());
        }
    }

    private static void addTape(List<Object> answers, BoardLetters x) {
        answers.add(x.tapeLength());
        answers.add(x.say());
        answers.add(x.errorPosition());
        for (int what = 11; what < 14; what++) {
            answers.add(x.value(what));
        }
        for (int word = 0; word < 5; word++) {
            for (int k = 0; k < 12; k++) {
                answers.add(x.spelled(word, k));
            }
        }
        answers.add(x.undo());
        answers.add(x.undo());
    }
}
