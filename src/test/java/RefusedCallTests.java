import java.util.EnumMap;
import java.util.List;
import java.util.Map;

/**
 * Section 5: "A call with an invalid argument returns INVALID (or false, 0) and changes nothing". Each refused call
 * is made on an object of its own, and what is answered afterwards is held against an object without that call.
 */
final class RefusedCallTests {
    /** A call, whose answer counts as a double: false is 0. */
    private interface Call {
        double of(BoardLetters x);
    }

    private static final int[] FAR = {Given.LEAST_INT, Given.LEAST_INT + 1, -1000, 100000, Given.GREATEST_INT - 1, Given.GREATEST_INT};

    private final Traces.State state;
    private final Map<Traces.Kind, List<Object>> unchanged = new EnumMap<>(Traces.Kind.class);

    private RefusedCallTests(Traces.State state) {
        this.state = state;
        for (Traces.Kind kind : Traces.Kind.values()) {
            unchanged.put(kind, Traces.of(kind, Traces.make(state)));
        }
    }

    public static void main(String[] args) {
        for (Traces.State state : Traces.State.values()) {
            RefusedCallTests test = new RefusedCallTests(state);
            test.statesAreAsMeant();
            test.textsAndSlots();
            test.numbers();
            test.corrections();
            test.swaps();
            test.letters();
            test.pairs();
            test.words();
            test.rows();
            test.bytes();
            test.notFound();
            test.asked();
            test.refusedTexts();
        }
        nothingToUndo();
        Check.finish("RefusedCallTests");
    }

    private void refuse(String about, double due, Call call) {
        Check.dueReal(about + " " + state, call.of(Traces.make(state)), due);
        same(about, call);
    }

    private void same(String about, Call call) {
        for (Traces.Kind kind : Traces.Kind.values()) {
            BoardLetters x = Traces.make(state);
            call.of(x);
            Check.dueText(about + " leaves " + kind + " of " + state, Traces.of(kind, x).toString(), unchanged.get(kind).toString());
        }
    }

    /** The least and the greatest int and others, and the two next to a range. */
    private static int[] outside(int least, int most) {
        int[] all = java.util.Arrays.copyOf(FAR, FAR.length + 2);
        all[FAR.length] = least - 1;
        all[FAR.length + 1] = most + 1;
        return all;
    }

    private int[] told() {
        return state.hasLetters() ? Traces.TOLD : new int[] {0};
    }

    private void statesAreAsMeant() {
        BoardLetters x = Traces.make(state);
        Check.due("words of " + state, x.value(11), state.words);
        Check.due("rows of " + state, x.value(12), state.rows);
        Check.due("tape of " + state, x.tapeLength(), state.tape);
        for (int letter : told()) {
            Check.dueTruth("letter " + letter + " of " + state, x.letter(letter, 0) > 0, true);
        }
        for (int letter : Traces.UNTOLD) {
            Check.due("letter " + letter + " of " + state, x.letter(letter, 0), -1);
        }
    }

    /** Promises 2, 3, 9, 12 and 13. */
    private void textsAndSlots() {
        if (state == Traces.State.WHOLE_TAPE) {
            refuse("append", -1, x -> x.append(0, 0, 0, 0, 0));
            refuse("append of words", -1, x -> x.append(0x61616161, 0x61616161, 0x61616161, 0x61616161, 0x61616161));
        }
        for (int n : outside(0, state.tape)) {
            refuse("truncate " + n, -1, x -> x.truncate(n));
        }
        for (int how : outside(0, 1)) {
            refuse("setBreak " + how, -1, x -> x.setBreak(how));
            refuse("keep " + how, -1, x -> x.keep(how));
            refuse("restore " + how, -1, x -> x.restore(how));
        }
    }

    /** Promise 7. */
    private void numbers() {
        int cap = Traces.make(state).value(6);
        int[] least = {10, 1, 0, 0, 0, 1};
        int[] most = {9999, 9999, 99, cap, 99, 9};
        for (int what = 0; what < 6; what++) {
            int number = what;
            for (int v : outside(least[what], most[what])) {
                refuse("setNumber " + what + " " + v, -1, x -> x.setNumber(number, v));
            }
            refuse("setNumber so already " + what, -2, x -> x.setNumber(number, x.value(number)));
        }
        for (int what : outside(0, 5)) {
            refuse("setNumber " + what, -1, x -> x.setNumber(what, 5));
        }
    }

    /** Promises 8, 9 and 10. */
    private void corrections() {
        for (int letter : Traces.UNTOLD) {
            refuse("correct first " + letter, -1, x -> x.correct(letter, 0, 5));
            refuse("correct second " + letter, -1, x -> x.correct(0, letter, 5));
            refuse("correct both " + letter, -1, x -> x.correct(letter, letter, 0));
        }
        for (int letter : told()) {
            for (int v : outside(-9, 9)) {
                refuse("correct by " + v, -1, x -> x.correct(letter, 0, v));
            }
            refuse("correct so already " + letter, -2, x -> x.correct(letter, 0, x.correction(letter, 0) - 9));
        }
        refuse("setBreak so already", -2, x -> x.setBreak(x.value(7)));
        refuse("setFill so already", -2, x -> x.setFill(x.value(8) == 1));
    }

    /** Promise 11. */
    private void swaps() {
        for (int i : outside(0, state.words - 1)) {
            refuse("swap first " + i, -1, x -> x.swap(i, 0));
            refuse("swap second " + i, -1, x -> x.swap(0, i));
            refuse("swap both " + i, -1, x -> x.swap(i, i));
        }
        for (int i = 0; i < state.words; i += 7) {
            int word = i;
            refuse("swap the same " + i, -1, x -> x.swap(word, word));
        }
    }

    /** Promises 15, 16, 17, 22 and 23. */
    private void letters() {
        for (int letter : Traces.UNTOLD) {
            refuse("inset of " + letter, -1, x -> x.inset(letter, true, 0));
            refuse("letter " + letter, -1, x -> x.letter(letter, 4));
            refuse("mirrored " + letter, 0, x -> x.mirrored(letter) ? 1 : 0);
            refuse("alike right " + letter, -1, x -> x.alike(letter, true));
            refuse("alike left " + letter, -1, x -> x.alike(letter, false));
        }
        for (int v : outside(0, 13)) {
            refuse("value " + v, -1, x -> x.value(v));
        }
        for (int v : outside(0, 5)) {
            refuse("right inset in band " + v, -1, x -> x.inset(0, true, v));
            refuse("left inset in band " + v, -1, x -> x.inset(0, false, v));
        }
        for (int v : outside(0, 4)) {
            refuse("letter a, " + v, -1, x -> x.letter(0, v));
        }
    }

    /** Promises 18, 19, 20 and 45. */
    private void pairs() {
        for (int letter : Traces.UNTOLD) {
            refuse("gapAt first " + letter, -1, x -> x.gapAt(letter, 0, 0));
            refuse("gapAt second " + letter, -1, x -> x.gapAt(0, letter, 0));
            refuse("distance first " + letter, -1, x -> x.distance(letter, 0, 0));
            refuse("distance second " + letter, -1, x -> x.distance(0, letter, 0));
            refuse("correction first " + letter, -1, x -> x.correction(letter, 0));
            refuse("correction second " + letter, -1, x -> x.correction(0, letter));
            refuse("bestCorrection first " + letter, -1, x -> x.bestCorrection(letter, 0));
            refuse("bestCorrection second " + letter, -1, x -> x.bestCorrection(0, letter));
        }
        for (int d : outside(-9, 99)) {
            refuse("gapAt " + d, -1, x -> x.gapAt(0, 0, d));
        }
        for (int gap : outside(0, Traces.make(state).value(6))) {
            refuse("distance for " + gap, -1, x -> x.distance(0, 0, gap));
        }
    }

    /** Promises 24, 25 and 39. */
    private void words() {
        for (int i : outside(0, state.words - 1)) {
            for (int what = 0; what < 4; what++) {
                int number = what;
                refuse("word " + i + ", " + what, -1, x -> x.word(i, number));
            }
            refuse("spelled " + i, -1, x -> x.spelled(i, 0));
            refuse("spelled far " + i, -1, x -> x.spelled(i, 99));
        }
        for (int what : outside(0, 3)) {
            refuse("word 0, " + what, -1, x -> x.word(0, what));
        }
        for (int k : new int[] {-1, -2, Given.LEAST_INT}) {
            refuse("spelled 0, " + k, -1, x -> x.spelled(0, k));
        }
        for (int rows : outside(1, 12)) {
            refuse("leastInner " + rows, -1, x -> x.leastInner(rows));
        }
    }

    /** Promises 27 to 33, 35, 43 and 46. */
    private void rows() {
        for (int row : outside(0, state.rows - 1)) {
            refuse("row " + row, -1, x -> x.row(row, 0));
            refuse("letterAt " + row, -1, x -> x.letterAt(row, 0));
            refuse("letterAt far " + row, -1, x -> x.letterAt(row, 999));
            refuse("place " + row, -1, x -> x.place(row, 0));
            refuse("place far " + row, -1, x -> x.place(row, 999));
            refuse("gap " + row, -1, x -> x.gap(row, 0));
            refuse("gap far " + row, -1, x -> x.gap(row, 999));
            refuse("uneven " + row, -1, x -> x.uneven(row));
            refuse("white " + row, -1, x -> x.white(row, 0, 0));
            refuse("white far " + row, -1, x -> x.white(row, 999, 0));
            refuse("touches " + row, -1, x -> x.touches(row));
            refuse("at " + row, -1, x -> x.at(row, 0));
            refuse("at far " + row, -1, x -> x.at(row, 9999));
            refuse("fillGap " + row, -1, x -> x.fillGap(row));
            refuse("full " + row, -1, x -> x.full(row));
        }
        for (int what : outside(0, 8)) {
            refuse("row 0, " + what, -1, x -> x.row(0, what));
        }
        for (int i : new int[] {-1, -2, Given.LEAST_INT}) {
            refuse("letterAt 0, " + i, -1, x -> x.letterAt(0, i));
            refuse("place 0, " + i, -1, x -> x.place(0, i));
            refuse("gap 0, " + i, -1, x -> x.gap(0, i));
            refuse("white 0, " + i, -1, x -> x.white(0, i, 0));
        }
        for (int band : outside(0, 5)) {
            refuse("white 0, 0, " + band, -1, x -> x.white(0, 0, band));
            refuse("white far in band " + band, -1, x -> x.white(0, 999, band));
        }
        for (int place : outside(0, 9999)) {
            refuse("at 0, " + place, -1, x -> x.at(0, place));
        }
    }

    /** Promises 49 and 51. */
    private void bytes() {
        for (int i : new int[] {-1, -2, Given.LEAST_INT}) {
            refuse("viewByte " + i, -1, x -> x.viewByte(i));
            refuse("setupByte " + i, -1, x -> x.setupByte(i));
        }
        for (int i : new int[] {0, 1, Given.GREATEST_INT}) {
            refuse("viewByte " + i + " beyond", -2, x -> x.viewByte(i == Given.GREATEST_INT ? i : x.viewLength() + i));
            refuse("setupByte " + i + " beyond", -2, x -> x.setupByte(i == Given.GREATEST_INT ? i : x.setupLength() + i));
        }
    }

    /** Each promise's own NOT_FOUND, and what there is without rows or words. */
    private void notFound() {
        if (state.hasLetters()) {
            refuse("restore of the empty slot", -2, x -> x.restore(0));
            refuse("inset of an open band", -2, x -> x.inset(14, true, 0));
            refuse("spelled beyond", -2, x -> x.spelled(0, 12));
        }
        if (state.rows > 0) {
            refuse("letterAt beyond", -2, x -> x.letterAt(0, x.row(0, 2)));
            refuse("place beyond", -2, x -> x.place(0, x.row(0, 2)));
            refuse("gap beyond", -2, x -> x.gap(0, x.row(0, 2)));
            refuse("white beyond", -2, x -> x.white(0, x.row(0, 2), 0));
            refuse("at beyond", -2, x -> x.at(0, 9999));
        } else {
            refuse("widest", -2, x -> x.widest(true));
            refuse("emptiest", -2, x -> x.widest(false));
            refuse("cost", -2, x -> x.cost());
            refuse("leastCost", -2, x -> x.leastCost());
            refuse("bestSwap", -2, x -> x.bestSwap());
            refuse("height", 0, x -> x.height());
            refuse("meanGap", 0, x -> x.meanGap());
        }
        if (state.words == 0) {
            refuse("restore of an empty slot", -2, x -> x.restore(1));
            refuse("longest", -2, x -> x.longest());
            refuse("leastInner without words", -2, x -> x.leastInner(1));
        }
    }

    /** Calls that only ask change nothing, either. */
    private void asked() {
        same("bestSize", x -> x.bestSize());
        same("bestGap", x -> x.bestGap());
        same("leastInner", x -> x.leastInner(2));
        same("leastCost", x -> x.leastCost());
        same("bestSwap", x -> x.bestSwap());
        same("bestCorrection", x -> x.bestCorrection(0, 0));
        same("fillGap", x -> x.fillGap(0));
        same("fits", x -> x.fits() ? 1 : 0);
        same("view", x -> x.viewByte(3));
        same("setup", x -> x.setupByte(3));
        same("extreme", x -> x.extreme(true));
        same("truncate of nothing", x -> x.truncate(0));
    }

    /** Promises 4 and 6: "On an error everything but the tape and the error position stays." */
    private void refusedTexts() {
        String setup = Given.board(20, 20, 9, 5, 5, 1, 2) + Given.even('t', 3, 3, 3) + Given.even('b', 4, 4, 4) + "pair b t wider 9;pair t t closer 9;";
        for (int stop = 0; stop <= setup.length(); stop++) {
            if (stop == 0 || setup.charAt(stop - 1) == ';' || stop < setup.length() && setup.charAt(stop) == ' ') {
                refuseText("load of " + stop, setup.substring(0, stop) + " ?", stop + 1, x -> x.load());
            }
        }
        refuseText("load that ends too early", setup.substring(0, setup.length() - 1), setup.length() - 1, x -> x.load());
        refuseText("load of nothing", "", 0, x -> x.load());
        refuseText("say of a byte", "a a\u0080", 3, x -> x.say());
        refuseText("say of a letter", "aa ab", 4, x -> x.say());
        refuseText("say of a long word", "a aaaaaaaaaaaaa a", 14, x -> x.say());
        refuseText("say of many words", "a ".repeat(31), 60, x -> x.say());
    }

    private void refuseText(String about, String text, int position, Call read) {
        for (Traces.Kind kind : Traces.Kind.values()) {
            BoardLetters x = Traces.makeWithoutTape(state);
            Check.feed(x, text);
            Check.dueReal(about + " " + state, read.of(x), -1);
            if (kind == Traces.Kind.ERROR) {
                Check.due(about + ", error position", x.errorPosition(), position);
                Check.due(about + ", tape", x.tapeLength(), 0);
            } else {
                Check.dueText(about + " leaves " + kind + " of " + state, Traces.of(kind, x).toString(),
                        Traces.of(kind, Traces.makeWithoutTape(state)).toString());
            }
        }
    }

    /** Promise 14: "INVALID if there is none". */
    private static void nothingToUndo() {
        for (Traces.State state : new Traces.State[] {Traces.State.NEW, Traces.State.WHOLE_TAPE}) {
            RefusedCallTests test = new RefusedCallTests(state);
            test.refuse("undo", -1, x -> x.undo());
        }
    }
}
