/** A spacer of letters for signboards; ../shared/DOC.md says what each call answers. */
public final class BoardLetters {
    public static final int INVALID = -1;
    public static final int NOT_FOUND = -2;

    private static final int INNER = 0;
    private static final int HIGH = 1;
    private static final int LEAD = 2;
    private static final int GAP = 3;
    private static final int WORD = 4;
    private static final int SIZE = 5;
    private static final int NUMBERS = 6;
    private static final int[] LEAST_NUMBER = {10, 1, 0, 0, 0, 1};
    private static final int[] MOST_NUMBER = {9999, 9999, 99, 30, 99, 9};

    private static final int LETTERS = 26;
    private static final int BANDS = 6;
    private static final int OPEN = -1;
    private static final int MOST_WIDE = 60;
    private static final int MOST_INSET = 9;
    private static final int MOST_CAP = 30;
    private static final int LEAST_DISTANCE = -9;
    private static final int MOST_ASKED_DISTANCE = 99;
    private static final int MOST_CORRECTION = 9;

    private static final int MOST_WORDS = 30;
    private static final int MOST_IN_WORD = 12;
    private static final int MOST_ROWS = 12;
    private static final int ROW_HIGH = 6;
    private static final int MOST_PLACE = 9999;
    private static final int PLACE_ZERO = 1000;
    private static final int NOWHERE = -1;
    private static final int NO_WAY = -1;
    private static final int SLOTS = 2;

    private final Tape tape = new Tape();
    private final Alphabet letters = new Alphabet();
    private final Alphabet draftLetters = new Alphabet();
    private final Setting now = new Setting();
    private final Setting draft = new Setting();
    private final SetupReader setupReader = new SetupReader(tape, draftLetters, draft);
    private final History history = new History();
    private final Setting[] slots = new Setting[SLOTS];
    private final boolean[] kept = new boolean[SLOTS];
    private final WordWidths wordWidths = new WordWidths(letters, now);
    private final Breaking breaking = new Breaking();
    private final Breaking trial = new Breaking();
    private final Rows rows = new Rows(letters, now, wordWidths, breaking);
    private final Sink sink = new Sink();
    private int errorAt = NOT_FOUND;
    private boolean laidOut = false;

    public BoardLetters() {
        for (int slot = 0; slot < SLOTS; slot++) {
            slots[slot] = new Setting();
        }
        letters.cap = 10;
        letters.tell(0, 10);
        for (int band = 0; band < BANDS; band++) {
            letters.setInset(0, false, band, 1);
            letters.setInset(0, true, band, 1);
        }
        now.numbers[INNER] = 100;
        now.numbers[HIGH] = 100;
        now.numbers[LEAD] = 2;
        now.numbers[GAP] = 3;
        now.numbers[WORD] = 8;
        now.numbers[SIZE] = 1;
    }

    // ---- texts that are read

    public int append(int a, int b, int c, int d, int e) {
        if (!tape.hasRoom(20)) {
            return INVALID;
        }
        tape.addFour(a);
        tape.addFour(b);
        tape.addFour(c);
        tape.addFour(d);
        tape.addFour(e);
        return tape.length;
    }

    public int truncate(int n) {
        if (n < 0 || n > tape.length) {
            return INVALID;
        }
        tape.length -= n;
        return tape.length;
    }

    public int load() {
        boolean good = setupReader.read();
        errorAt = good ? NOT_FOUND : setupReader.stoppedAt();
        tape.length = 0;
        if (!good) {
            return INVALID;
        }
        letters.copyFrom(draftLetters);
        now.copyFrom(draft);
        history.forget();
        for (int slot = 0; slot < SLOTS; slot++) {
            kept[slot] = false;
        }
        laidOut = false;
        return letters.told;
    }

    public int errorPosition() {
        return errorAt;
    }

    // ---- operations

    public int say() {
        draft.copyFrom(now);
        errorAt = draft.readWords(tape, letters);
        tape.length = 0;
        if (errorAt != NOT_FOUND) {
            return INVALID;
        }
        beginOperation();
        now.copyFrom(draft);
        return now.words;
    }

    public int setNumber(int what, int v) {
        if (what < 0 || what >= NUMBERS) {
            return INVALID;
        }
        int most = what == GAP ? letters.cap : MOST_NUMBER[what];
        if (v < LEAST_NUMBER[what] || v > most) {
            return INVALID;
        }
        int earlier = now.numbers[what];
        if (earlier == v) {
            return NOT_FOUND;
        }
        beginOperation();
        now.numbers[what] = v;
        return earlier;
    }

    public int correct(int a, int b, int v) {
        if (!letters.knows(a) || !letters.knows(b) || v < -MOST_CORRECTION || v > MOST_CORRECTION) {
            return INVALID;
        }
        int earlier = now.correctionOf(a, b);
        if (earlier == v) {
            return NOT_FOUND;
        }
        beginOperation();
        now.corrections[a * LETTERS + b] = v;
        return earlier + MOST_CORRECTION;
    }

    public int setBreak(int how) {
        if (how != 0 && how != 1) {
            return INVALID;
        }
        int earlier = now.howBroken;
        if (earlier == how) {
            return NOT_FOUND;
        }
        beginOperation();
        now.howBroken = how;
        return earlier;
    }

    public int setFill(boolean on) {
        if (now.filled == on) {
            return NOT_FOUND;
        }
        beginOperation();
        now.filled = on;
        return 1;
    }

    public int swap(int i, int j) {
        if (!now.hasWord(i) || !now.hasWord(j) || i == j) {
            return INVALID;
        }
        beginOperation();
        now.exchange(i, j);
        layOut();
        return breaking.rows;
    }

    public int keep(int slot) {
        if (slot < 0 || slot >= SLOTS || slots[slot] == null) {
            return INVALID;
        }
        slots[slot].copyFrom(now);
        kept[slot] = true;
        return now.words;
    }

    public int restore(int slot) {
        if (slot < 0 || slot >= SLOTS || slots[slot] == null) {
            return INVALID;
        }
        if (!kept[slot]) {
            return NOT_FOUND;
        }
        beginOperation();
        now.copyFrom(slots[slot]);
        return now.words;
    }

    public int undo() {
        if (history.count == 0) {
            return INVALID;
        }
        history.bringBack(now);
        laidOut = false;
        return history.count;
    }

    /** Every change by an operation starts here, so that it can be undone and rows are laid anew. */
    private void beginOperation() {
        history.remember(now);
        laidOut = false;
    }

    // ---- letters and pairs

    public int value(int what) {
        if (what >= 0 && what < NUMBERS) {
            return now.numbers[what];
        }
        switch (what) {
            case 6:
                return letters.cap;
            case 7:
                return now.howBroken;
            case 8:
                return now.filled ? 1 : 0;
            case 9:
                return letters.told;
            case 10:
                return now.countCorrections();
            case 11:
                return now.words;
            case 12:
                layOut();
                return breaking.rows;
            case 13:
                return now.countLetters(0, now.words);
            default:
                return INVALID;
        }
    }

    public int inset(int letter, boolean right, int band) {
        if (!letters.knows(letter) || band < 0 || band >= BANDS) {
            return INVALID;
        }
        int inset = letters.insetOf(letter, right, band);
        return inset == OPEN ? NOT_FOUND : inset;
    }

    public int letter(int letter, int what) {
        if (!letters.knows(letter)) {
            return INVALID;
        }
        switch (what) {
            case 0:
                return letters.wides[letter];
            case 1:
                return letters.sumOfInsets(letter, false);
            case 2:
                return letters.sumOfInsets(letter, true);
            case 3:
                return letters.countOpen(letter);
            case 4:
                return now.countLetter(letter);
            default:
                return INVALID;
        }
    }

    public int gapAt(int a, int b, int d) {
        if (!letters.knows(a) || !letters.knows(b) || d < LEAST_DISTANCE || d > MOST_ASKED_DISTANCE) {
            return INVALID;
        }
        return letters.opticalGap(a, b, d);
    }

    public int distance(int a, int b, int gap) {
        if (!letters.knows(a) || !letters.knows(b) || gap < 0 || gap > letters.cap) {
            return INVALID;
        }
        return pairDistance(a, b, gap) - LEAST_DISTANCE;
    }

    public int correction(int a, int b) {
        if (!letters.knows(a) || !letters.knows(b)) {
            return INVALID;
        }
        return now.correctionOf(a, b) + MOST_CORRECTION;
    }

    public int extreme(boolean greatest) {
        int best = NOT_FOUND;
        int bestDistance = 0;
        for (int pair = 0; pair < LETTERS * LETTERS; pair++) {
            int a = pair / LETTERS;
            int b = pair % LETTERS;
            if (letters.knows(a) && letters.knows(b)) {
                int distance = pairDistance(a, b, now.numbers[GAP]);
                boolean better = greatest ? distance > bestDistance : distance < bestDistance;
                if (best == NOT_FOUND || better) {
                    best = pair;
                    bestDistance = distance;
                }
            }
        }
        return best;
    }

    public boolean mirrored(int letter) {
        if (!letters.knows(letter)) {
            return false;
        }
        for (int band = 0; band < BANDS; band++) {
            if (letters.insetOf(letter, false, band) != letters.insetOf(letter, true, band)) {
                return false;
            }
        }
        return true;
    }

    public int alike(int letter, boolean right) {
        if (!letters.knows(letter)) {
            return INVALID;
        }
        int count = 0;
        for (int other = 0; other < LETTERS; other++) {
            if (other != letter && letters.knows(other) && letters.sameSide(letter, other, right)) {
                count++;
            }
        }
        return count;
    }

    private int pairDistance(int a, int b, int gap) {
        return now.corrected(a, b, letters.freeDistance(a, b, gap, LEAST_DISTANCE));
    }

    // ---- words

    public int word(int i, int what) {
        if (!now.hasWord(i)) {
            return INVALID;
        }
        layOut();
        int row = breaking.rowOf(i);
        switch (what) {
            case 0:
                return now.lengths[i];
            case 1:
                return wordWidths.of(i, now.numbers[GAP]) * now.numbers[SIZE];
            case 2:
                return row;
            case 3:
                return row == NOT_FOUND ? NOT_FOUND : i - breaking.firsts[row];
            default:
                return INVALID;
        }
    }

    public int spelled(int i, int k) {
        if (!now.hasWord(i) || k < 0) {
            return INVALID;
        }
        return k < now.lengths[i] ? now.spelling[i * MOST_IN_WORD + k] : NOT_FOUND;
    }

    public int longest() {
        layOut();
        int best = NOT_FOUND;
        int bestWidth = 0;
        for (int word = 0; word < now.words; word++) {
            int width = wordWidths.of(word, now.numbers[GAP]);
            if (width > bestWidth) {
                best = word;
                bestWidth = width;
            }
        }
        return best;
    }

    // ---- rows

    public int row(int row, int what) {
        layOut();
        if (!breaking.hasRow(row)) {
            return INVALID;
        }
        boolean spaced = breaking.wordsIn(row) > 1;
        switch (what) {
            case 0:
                return breaking.firsts[row];
            case 1:
                return breaking.wordsIn(row);
            case 2:
                return rows.lettersIn(row);
            case 3:
                return rows.gaps[row];
            case 4:
                return rows.widths[row];
            case 5:
                return rows.starts[row];
            case 6:
                return Math.max(0, now.numbers[INNER] - rows.widths[row]);
            case 7:
                return spaced ? rows.spaceBehind(row, breaking.wordsIn(row) - 2) : NOT_FOUND;
            case 8:
                return spaced ? rows.spaceBehind(row, 0) : NOT_FOUND;
            default:
                return INVALID;
        }
    }

    public int letterAt(int row, int i) {
        layOut();
        if (!breaking.hasRow(row) || i < 0) {
            return INVALID;
        }
        int spot = rows.spotOf(row, i);
        return spot == NOWHERE ? NOT_FOUND : now.spelling[spot];
    }

    public int place(int row, int i) {
        layOut();
        if (!breaking.hasRow(row) || i < 0) {
            return INVALID;
        }
        int spot = rows.spotOf(row, i);
        return spot == NOWHERE ? NOT_FOUND : rows.places[spot] + PLACE_ZERO;
    }

    public int gap(int row, int i) {
        layOut();
        if (!breaking.hasRow(row) || i < 0) {
            return INVALID;
        }
        return rows.gapBehind(row, i);
    }

    public int uneven(int row) {
        layOut();
        if (!breaking.hasRow(row)) {
            return INVALID;
        }
        int least = NOT_FOUND;
        int greatest = NOT_FOUND;
        int count = rows.lettersIn(row);
        for (int i = 0; i < count; i++) {
            int gap = rows.gapBehind(row, i);
            if (gap != NOT_FOUND) {
                least = least == NOT_FOUND ? gap : Math.min(least, gap);
                greatest = Math.max(greatest, gap);
            }
        }
        return least == NOT_FOUND ? NOT_FOUND : greatest - least;
    }

    public int white(int row, int i, int band) {
        layOut();
        if (!breaking.hasRow(row) || i < 0 || band < 0 || band >= BANDS) {
            return INVALID;
        }
        int spot = rows.spotOf(row, i);
        if (spot == NOWHERE || !rows.hasNext(spot) || rows.isOpenBehind(spot, band)) {
            return NOT_FOUND;
        }
        return rows.whiteBehind(spot, band) * now.numbers[SIZE] + PLACE_ZERO;
    }

    public int touches(int row) {
        layOut();
        if (!breaking.hasRow(row)) {
            return INVALID;
        }
        int touching = 0;
        int count = rows.lettersIn(row);
        for (int i = 0; i < count; i++) {
            if (rows.touchesNext(rows.spotOf(row, i))) {
                touching++;
            }
        }
        return touching;
    }

    public int widest(boolean fullest) {
        layOut();
        int best = NOT_FOUND;
        int bestWidth = 0;
        for (int row = 0; row < breaking.rows; row++) {
            int width = rows.widths[row];
            boolean better = fullest ? width > bestWidth : width < bestWidth;
            if (best == NOT_FOUND || better) {
                best = row;
                bestWidth = width;
            }
        }
        return best;
    }

    public int at(int row, int x) {
        layOut();
        if (!breaking.hasRow(row) || x < 0 || x > MOST_PLACE) {
            return INVALID;
        }
        int count = rows.lettersIn(row);
        for (int i = 0; i < count; i++) {
            if (rows.holds(rows.spotOf(row, i), x)) {
                return i;
            }
        }
        return NOT_FOUND;
    }

    /** Breaks the words and measures the rows, if anything has changed since that was done. */
    private void layOut() {
        if (!laidOut) {
            wordWidths.renew();
            breaking.prepare(now, wordWidths, now.numbers[GAP], now.numbers[SIZE]);
            breaking.breakWords(now.howBroken);
            rows.renew();
            laidOut = true;
        }
    }

    // ---- fitting

    public boolean fits() {
        layOut();
        return breaking.isFitting(now.numbers[LEAD], now.numbers[HIGH]);
    }

    public int bestSize() {
        layOut();
        for (int size = MOST_NUMBER[SIZE]; size >= LEAST_NUMBER[SIZE]; size--) {
            if (fitsWith(now.numbers[GAP], size)) {
                return size;
            }
        }
        return NOT_FOUND;
    }

    public int bestGap() {
        layOut();
        for (int gap = letters.cap; gap >= 0; gap--) {
            if (fitsWith(gap, now.numbers[SIZE])) {
                return gap;
            }
        }
        return NOT_FOUND;
    }

    public int leastInner(int rows) {
        if (rows < 1 || rows > MOST_ROWS) {
            return INVALID;
        }
        layOut();
        prepareTrial();
        int low = LEAST_NUMBER[INNER];
        int high = MOST_NUMBER[INNER];
        if (now.words == 0 || !trial.isBrokenWithin(rows, high)) {
            return NOT_FOUND;
        }
        for (int step = 0; step < MOST_NUMBER[INNER] && low < high; step++) {
            int middle = (low + high) / 2;
            if (trial.isBrokenWithin(rows, middle)) {
                high = middle;
            } else {
                low = middle + 1;
            }
        }
        return high;
    }

    public int height() {
        layOut();
        return breaking.heightWith(now.numbers[LEAD]);
    }

    public int cost() {
        layOut();
        return breaking.rows == 0 ? NOT_FOUND : breaking.costOfRows();
    }

    public int leastCost() {
        layOut();
        prepareTrial();
        int least = trial.findLeastCost();
        return now.words == 0 || least == NO_WAY ? NOT_FOUND : least;
    }

    public int fillGap(int row) {
        layOut();
        if (!breaking.hasRow(row)) {
            return INVALID;
        }
        return rows.greatestGap(row);
    }

    public int bestSwap() {
        layOut();
        if (breaking.rows == 0) {
            return NOT_FOUND;
        }
        prepareTrial();
        int best = NOT_FOUND;
        int bestCost = breaking.costOfRows();
        for (int i = 0; i < now.words; i++) {
            for (int j = i + 1; j < now.words; j++) {
                int cost = trial.costExchanged(i, j, now.howBroken);
                if (cost != NO_WAY && cost < bestCost) {
                    best = 100 * i + j;
                    bestCost = cost;
                }
            }
        }
        return best;
    }

    public int bestCorrection(int a, int b) {
        if (!letters.knows(a) || !letters.knows(b)) {
            return INVALID;
        }
        int gap = now.numbers[GAP];
        int free = letters.freeDistance(a, b, gap, LEAST_DISTANCE);
        int best = 0;
        int bestOff = Math.abs(letters.opticalGap(a, b, free) - gap);
        for (int v = -MOST_CORRECTION; v <= MOST_CORRECTION; v++) {
            int off = Math.abs(letters.opticalGap(a, b, Math.max(LEAST_DISTANCE, free + v)) - gap);
            if (off < bestOff || (off == bestOff && Math.abs(v) < Math.abs(best))) {
                best = v;
                bestOff = off;
            }
        }
        return best + MOST_CORRECTION;
    }

    private boolean fitsWith(int gap, int size) {
        trial.prepare(now, wordWidths, gap, size);
        trial.breakWords(now.howBroken);
        return trial.isFitting(now.numbers[LEAD], now.numbers[HIGH]);
    }

    private void prepareTrial() {
        trial.prepare(now, wordWidths, now.numbers[GAP], now.numbers[SIZE]);
    }

    // ---- rates

    public float full(int row) {
        layOut();
        if (!breaking.hasRow(row)) {
            return -1;
        }
        return (float) rows.widths[row] / (float) now.numbers[INNER];
    }

    public double meanGap() {
        layOut();
        int sum = 0;
        int count = 0;
        for (int row = 0; row < breaking.rows; row++) {
            int inRow = rows.lettersIn(row);
            for (int i = 0; i < inRow; i++) {
                int gap = rows.gapBehind(row, i);
                if (gap != NOT_FOUND) {
                    sum += gap;
                    count++;
                }
            }
        }
        return count == 0 ? 0 : (double) sum / (double) count;
    }

    // ---- texts that are written

    public int viewLength() {
        layOut();
        sink.open(NOWHERE);
        writeView();
        return sink.length;
    }

    public int viewByte(int i) {
        if (i < 0) {
            return INVALID;
        }
        layOut();
        sink.open(i);
        writeView();
        return sink.found;
    }

    public int setupLength() {
        sink.open(NOWHERE);
        writeSetup();
        return sink.length;
    }

    public int setupByte(int i) {
        if (i < 0) {
            return INVALID;
        }
        sink.open(i);
        writeSetup();
        return sink.found;
    }

    public int tapeLength() {
        return tape.length;
    }

    private void writeView() {
        for (int row = 0; row < breaking.rows; row++) {
            sink.addNumber(rows.starts[row]);
            sink.add(':');
            int end = breaking.firsts[row + 1];
            for (int word = breaking.firsts[row]; word < end; word++) {
                for (int k = 0; k < now.lengths[word]; k++) {
                    sink.add('a' + now.spelling[word * MOST_IN_WORD + k]);
                }
                sink.add(' ');
            }
            sink.addNumber(rows.gaps[row]);
            sink.add('\n');
        }
    }

    private void writeSetup() {
        writeNumber("board ", now.numbers[INNER]);
        writeNumber(" ", now.numbers[HIGH]);
        writeNumber(" lead ", now.numbers[LEAD]);
        writeNumber(" cap ", letters.cap);
        writeNumber(" gap ", now.numbers[GAP]);
        writeNumber(" word ", now.numbers[WORD]);
        writeNumber(" size ", now.numbers[SIZE]);
        sink.add(';');
        for (int letter = 0; letter < LETTERS; letter++) {
            if (letters.knows(letter)) {
                writeLetter(letter);
            }
        }
        for (int pair = 0; pair < LETTERS * LETTERS; pair++) {
            if (now.corrections[pair] != 0) {
                writePair(pair / LETTERS, pair % LETTERS, now.corrections[pair]);
            }
        }
    }

    private void writeNumber(String ahead, int number) {
        sink.addText(ahead);
        sink.addNumber(number);
    }

    private void writeLetter(int letter) {
        sink.addText("letter ");
        sink.add('a' + letter);
        writeNumber(" wide ", letters.wides[letter]);
        sink.addText(" left");
        writeSide(letter, false);
        sink.addText(" right");
        writeSide(letter, true);
        sink.add(';');
    }

    private void writeSide(int letter, boolean right) {
        for (int band = 0; band < BANDS; band++) {
            int inset = letters.insetOf(letter, right, band);
            if (inset == OPEN) {
                sink.addText(" open");
            } else {
                writeNumber(" ", inset);
            }
        }
    }

    private void writePair(int a, int b, int correction) {
        sink.addText("pair ");
        sink.add('a' + a);
        sink.add(' ');
        sink.add('a' + b);
        writeNumber(correction < 0 ? " closer " : " wider ", Math.abs(correction));
        sink.add(';');
    }

    // ---- classes inside

    /** The bytes that wait to be read. */
    private static final class Tape {
        static final int MOST_BYTES = 2000;

        final int[] bytes = new int[MOST_BYTES];
        int length = 0;

        boolean hasRoom(int count) {
            return count <= MOST_BYTES - length;
        }

        void addFour(int bits) {
            for (int shift = 24; shift >= 0; shift -= 8) {
                if (length < MOST_BYTES) {
                    bytes[length] = (bits >>> shift) & 255;
                    length++;
                }
            }
        }

        /** A byte of the text, or NOWHERE where there is none. */
        int byteAt(int i) {
            return i >= 0 && i < length ? bytes[i] : NOWHERE;
        }

        static boolean isWhite(int b) {
            return b == ' ' || b == '\n';
        }
    }

    /** The letters that are told, with their outlines, and CAP; no operation changes them. */
    private static final class Alphabet {
        static final int SIDES = 2 * BANDS;

        final int[] wides = new int[LETTERS];
        final int[] insets = new int[LETTERS * SIDES];
        int cap = 1;
        int told = 0;

        void copyFrom(Alphabet other) {
            System.arraycopy(other.wides, 0, wides, 0, LETTERS);
            System.arraycopy(other.insets, 0, insets, 0, LETTERS * SIDES);
            cap = other.cap;
            told = other.told;
        }

        void clear() {
            for (int letter = 0; letter < LETTERS; letter++) {
                wides[letter] = 0;
            }
            told = 0;
        }

        /** A letter is told if it has a WIDE. */
        boolean knows(int letter) {
            return letter >= 0 && letter < LETTERS && wides[letter] > 0;
        }

        void tell(int letter, int wide) {
            wides[letter] = wide;
            told++;
        }

        void setInset(int letter, boolean right, int band, int inset) {
            insets[letter * SIDES + (right ? BANDS : 0) + band] = inset;
        }

        int insetOf(int letter, boolean right, int band) {
            return insets[letter * SIDES + (right ? BANDS : 0) + band];
        }

        int sumOfInsets(int letter, boolean right) {
            int sum = 0;
            for (int band = 0; band < BANDS; band++) {
                int inset = insetOf(letter, right, band);
                sum += inset == OPEN ? 0 : inset;
            }
            return sum;
        }

        int countOpen(int letter) {
            int count = 0;
            for (int band = 0; band < BANDS; band++) {
                count += insetOf(letter, false, band) == OPEN ? 1 : 0;
                count += insetOf(letter, true, band) == OPEN ? 1 : 0;
            }
            return count;
        }

        boolean sameSide(int a, int b, boolean right) {
            for (int band = 0; band < BANDS; band++) {
                if (insetOf(a, right, band) != insetOf(b, right, band)) {
                    return false;
                }
            }
            return true;
        }

        int opticalGap(int a, int b, int d) {
            int sum = 0;
            for (int band = 0; band < BANDS; band++) {
                int right = insetOf(a, true, band);
                int left = insetOf(b, false, band);
                if (right == OPEN || left == OPEN) {
                    sum += cap;
                } else {
                    sum += Math.min(cap, Math.max(0, right + d + left));
                }
            }
            return sum / BANDS;
        }

        /** The least distance from one on at which the optical gap is wide enough; at CAP it always is. */
        int freeDistance(int a, int b, int gap, int from) {
            int d = from;
            while (d < cap && opticalGap(a, b, d) < gap) {
                d++;
            }
            return d;
        }
    }

    /** Everything that operations change: the numbers, BREAK, FILL, the corrections and the words. */
    private static final class Setting {
        final int[] numbers = new int[NUMBERS];
        final int[] corrections = new int[LETTERS * LETTERS];
        final int[] lengths = new int[MOST_WORDS];
        final int[] spelling = new int[MOST_WORDS * MOST_IN_WORD];
        int howBroken = 0;
        boolean filled = false;
        int words = 0;

        void copyFrom(Setting other) {
            System.arraycopy(other.numbers, 0, numbers, 0, NUMBERS);
            System.arraycopy(other.corrections, 0, corrections, 0, LETTERS * LETTERS);
            System.arraycopy(other.lengths, 0, lengths, 0, MOST_WORDS);
            System.arraycopy(other.spelling, 0, spelling, 0, MOST_WORDS * MOST_IN_WORD);
            howBroken = other.howBroken;
            filled = other.filled;
            words = other.words;
        }

        void clear() {
            for (int pair = 0; pair < LETTERS * LETTERS; pair++) {
                corrections[pair] = 0;
            }
            howBroken = 0;
            filled = false;
            words = 0;
        }

        int correctionOf(int a, int b) {
            return corrections[a * LETTERS + b];
        }

        int corrected(int a, int b, int distance) {
            return Math.max(LEAST_DISTANCE, distance + correctionOf(a, b));
        }

        int countCorrections() {
            int count = 0;
            for (int pair = 0; pair < LETTERS * LETTERS; pair++) {
                count += corrections[pair] == 0 ? 0 : 1;
            }
            return count;
        }

        boolean hasWord(int word) {
            return word >= 0 && word < words;
        }

        int countLetters(int from, int to) {
            int count = 0;
            for (int word = from; word < to; word++) {
                count += lengths[word];
            }
            return count;
        }

        int countLetter(int letter) {
            int count = 0;
            for (int word = 0; word < words; word++) {
                for (int k = 0; k < lengths[word]; k++) {
                    count += spelling[word * MOST_IN_WORD + k] == letter ? 1 : 0;
                }
            }
            return count;
        }

        void exchange(int i, int j) {
            int length = lengths[i];
            lengths[i] = lengths[j];
            lengths[j] = length;
            for (int k = 0; k < MOST_IN_WORD; k++) {
                int letter = spelling[i * MOST_IN_WORD + k];
                spelling[i * MOST_IN_WORD + k] = spelling[j * MOST_IN_WORD + k];
                spelling[j * MOST_IN_WORD + k] = letter;
            }
        }

        /** Takes the words of the tape; the position of the first byte that cannot stand, or NOT_FOUND. */
        int readWords(Tape tape, Alphabet letters) {
            boolean inside = false;
            words = 0;
            for (int i = 0; i < tape.length; i++) {
                int b = tape.byteAt(i);
                if (Tape.isWhite(b)) {
                    inside = false;
                } else if (!letters.knows(b - 'a') || !addLetter(b - 'a', inside)) {
                    return i;
                } else {
                    inside = true;
                }
            }
            return NOT_FOUND;
        }

        /** Puts a letter behind the last word or begins a new word with it; false if there is no room. */
        private boolean addLetter(int letter, boolean inside) {
            if (!inside) {
                if (words >= MOST_WORDS) {
                    return false;
                }
                lengths[words] = 0;
                words++;
            }
            int last = words - 1;
            if (last < 0 || lengths[last] >= MOST_IN_WORD) {
                return false;
            }
            spelling[last * MOST_IN_WORD + lengths[last]] = letter;
            lengths[last]++;
            return true;
        }
    }

    /** What was ahead of the latest operations. */
    private static final class History {
        static final int MOST = 8;

        final Setting[] earlier = new Setting[MOST];
        int next = 0;
        int count = 0;

        History() {
            for (int i = 0; i < MOST; i++) {
                earlier[i] = new Setting();
            }
        }

        void remember(Setting now) {
            if (earlier[next] != null) {
                earlier[next].copyFrom(now);
            }
            next = (next + 1) % MOST;
            count = Math.min(MOST, count + 1);
        }

        void bringBack(Setting now) {
            next = (next + MOST - 1) % MOST;
            count--;
            if (earlier[next] != null) {
                now.copyFrom(earlier[next]);
            }
        }

        void forget() {
            count = 0;
        }
    }

    /** Cuts the tape into tokens, one at a time. */
    private static final class Tokens {
        static final int END = 0;
        static final int NAME = 1;
        static final int NUMBER = 2;
        static final int SEMICOLON = 3;
        static final int NO_TOKEN = 4;
        static final int MOST_DIGITS = 4;

        final Tape tape;
        int kind = END;
        int first = 0;
        int end = 0;
        int number = 0;

        Tokens(Tape tape) {
            this.tape = tape;
        }

        void begin() {
            end = 0;
            advance();
        }

        void advance() {
            first = end;
            while (first < tape.length && Tape.isWhite(tape.byteAt(first))) {
                first++;
            }
            kind = kindOf(tape.byteAt(first));
            end = first < tape.length ? first + 1 : first;
            if (kind == NAME || kind == NUMBER) {
                while (end < tape.length && kindOf(tape.byteAt(end)) == kind) {
                    end++;
                }
            }
            if (kind == NUMBER) {
                readDigits();
            }
        }

        boolean isName(String name) {
            if (kind != NAME || end - first != name.length()) {
                return false;
            }
            for (int i = 0; i < name.length(); i++) {
                if (tape.byteAt(first + i) != name.charAt(i)) {
                    return false;
                }
            }
            return true;
        }

        boolean isNumber(int least, int most) {
            return kind == NUMBER && number >= least && number <= most;
        }

        /** The letter, if the token is a LETTER, or NOWHERE. */
        int asLetter() {
            return kind == NAME && end - first == 1 ? tape.byteAt(first) - 'a' : NOWHERE;
        }

        private void readDigits() {
            if (end - first > MOST_DIGITS) {
                kind = NO_TOKEN;
                return;
            }
            number = 0;
            for (int i = first; i < end; i++) {
                number = number * 10 + tape.byteAt(i) - '0';
            }
        }

        private static int kindOf(int b) {
            if (b == NOWHERE) {
                return END;
            }
            if (b >= 'a' && b <= 'z') {
                return NAME;
            }
            if (b >= '0' && b <= '9') {
                return NUMBER;
            }
            return b == ';' ? SEMICOLON : NO_TOKEN;
        }
    }

    /** Reads a setup text into drafts; a token that cannot stand stays the current one. */
    private static final class SetupReader {
        final Tokens tokens;
        final Tape tape;
        final Alphabet letters;
        final Setting setting;

        SetupReader(Tape tape, Alphabet letters, Setting setting) {
            this.tokens = new Tokens(tape);
            this.tape = tape;
            this.letters = letters;
            this.setting = setting;
        }

        int stoppedAt() {
            return tokens.first;
        }

        boolean read() {
            letters.clear();
            setting.clear();
            tokens.begin();
            if (!readBoard() || !readLetter()) {
                return false;
            }
            for (int n = 0; n < LETTERS && tokens.isName("letter"); n++) {
                if (!readLetter()) {
                    return false;
                }
            }
            for (int n = 0; n < tape.length && tokens.kind != Tokens.END; n++) {
                if (!readPair()) {
                    return false;
                }
            }
            return true;
        }

        private boolean readBoard() {
            return passName("board") && readNumber(INNER) && readNumber(HIGH)
                    && passName("lead") && readNumber(LEAD)
                    && passName("cap") && readCap()
                    && passName("gap") && readNumber(GAP)
                    && passName("word") && readNumber(WORD)
                    && passName("size") && readNumber(SIZE)
                    && passSemicolon();
        }

        private boolean readNumber(int what) {
            int most = what == GAP ? letters.cap : MOST_NUMBER[what];
            if (!tokens.isNumber(LEAST_NUMBER[what], most)) {
                return false;
            }
            setting.numbers[what] = tokens.number;
            tokens.advance();
            return true;
        }

        private boolean readCap() {
            if (!tokens.isNumber(1, MOST_CAP)) {
                return false;
            }
            letters.cap = tokens.number;
            tokens.advance();
            return true;
        }

        private boolean readLetter() {
            if (!passName("letter")) {
                return false;
            }
            int letter = tokens.asLetter();
            if (letter == NOWHERE || letters.knows(letter)) {
                return false;
            }
            tokens.advance();
            if (!passName("wide") || !tokens.isNumber(1, MOST_WIDE)) {
                return false;
            }
            letters.tell(letter, tokens.number);
            tokens.advance();
            return passName("left") && readSide(letter, false)
                    && passName("right") && readSide(letter, true)
                    && passSemicolon();
        }

        private boolean readSide(int letter, boolean right) {
            for (int band = 0; band < BANDS; band++) {
                if (tokens.isName("open")) {
                    letters.setInset(letter, right, band, OPEN);
                } else if (tokens.isNumber(0, MOST_INSET)) {
                    letters.setInset(letter, right, band, tokens.number);
                } else {
                    return false;
                }
                tokens.advance();
            }
            return true;
        }

        private boolean readPair() {
            if (!passName("pair")) {
                return false;
            }
            int a = tokens.asLetter();
            if (!passLetter(a)) {
                return false;
            }
            int b = tokens.asLetter();
            if (!passLetter(b)) {
                return false;
            }
            boolean closer = tokens.isName("closer");
            if (!passName(closer ? "closer" : "wider") || !tokens.isNumber(0, MOST_CORRECTION)) {
                return false;
            }
            setting.corrections[a * LETTERS + b] = closer ? -tokens.number : tokens.number;
            tokens.advance();
            return passSemicolon();
        }

        private boolean passName(String name) {
            if (!tokens.isName(name)) {
                return false;
            }
            tokens.advance();
            return true;
        }

        private boolean passLetter(int letter) {
            if (!letters.knows(letter)) {
                return false;
            }
            tokens.advance();
            return true;
        }

        private boolean passSemicolon() {
            if (tokens.kind != Tokens.SEMICOLON) {
                return false;
            }
            tokens.advance();
            return true;
        }
    }

    /** The width of each word for each gap, before it is multiplied by SIZE. */
    private static final class WordWidths {
        final Alphabet letters;
        final Setting setting;
        final int[] widths = new int[(MOST_CAP + 1) * MOST_WORDS];

        WordWidths(Alphabet letters, Setting setting) {
            this.letters = letters;
            this.setting = setting;
        }

        int of(int word, int gap) {
            return widths[gap * MOST_WORDS + word];
        }

        void renew() {
            for (int word = 0; word < setting.words; word++) {
                addWides(word);
                for (int k = 1; k < setting.lengths[word]; k++) {
                    int spot = word * MOST_IN_WORD + k;
                    addDistances(word, setting.spelling[spot - 1], setting.spelling[spot]);
                }
                for (int gap = 0; gap <= letters.cap; gap++) {
                    int i = gap * MOST_WORDS + word;
                    widths[i] = Math.max(1, widths[i]);
                }
            }
        }

        private void addWides(int word) {
            int sum = 0;
            for (int k = 0; k < setting.lengths[word]; k++) {
                sum += letters.wides[setting.spelling[word * MOST_IN_WORD + k]];
            }
            for (int gap = 0; gap <= letters.cap; gap++) {
                widths[gap * MOST_WORDS + word] = sum;
            }
        }

        /** A greater gap never asks for a lesser distance, so each search goes on where the last one ended. */
        private void addDistances(int word, int a, int b) {
            int free = LEAST_DISTANCE;
            for (int gap = 0; gap <= letters.cap; gap++) {
                free = letters.freeDistance(a, b, gap, free);
                widths[gap * MOST_WORDS + word] += setting.corrected(a, b, free);
            }
        }
    }

    /** Breaks words, by their widths alone, into rows. */
    private static final class Breaking {
        static final int STARTS = MOST_WORDS + 1;

        final int[] widths = new int[MOST_WORDS];
        final int[] sums = new int[STARTS];
        final int[] firsts = new int[MOST_ROWS + 1];
        final int[] leastCosts = new int[(MOST_ROWS + 1) * STARTS];
        int words = 0;
        int inner = 0;
        int space = 0;
        int size = 1;
        int rows = 0;

        void prepare(Setting setting, WordWidths wordWidths, int gap, int newSize) {
            words = setting.words;
            inner = setting.numbers[INNER];
            space = setting.numbers[WORD];
            size = newSize;
            for (int word = 0; word < words; word++) {
                widths[word] = wordWidths.of(word, gap);
            }
            addUp();
        }

        void breakWords(int how) {
            if (how == 0) {
                breakEarly();
            } else if (findLeastCost() == NO_WAY) {
                rows = 0;
            } else {
                breakCheaply();
            }
        }

        boolean hasRow(int row) {
            return row >= 0 && row < rows;
        }

        int wordsIn(int row) {
            return firsts[row + 1] - firsts[row];
        }

        int rowOf(int word) {
            for (int row = 0; row < rows; row++) {
                if (word >= firsts[row] && word < firsts[row + 1]) {
                    return row;
                }
            }
            return NOT_FOUND;
        }

        int heightWith(int lead) {
            return rows == 0 ? 0 : rows * ROW_HIGH * size + (rows - 1) * lead;
        }

        boolean isFitting(int lead, int high) {
            return (rows > 0 || words == 0) && !hasWiderRow() && heightWith(lead) <= high;
        }

        int costOfRows() {
            int cost = 0;
            for (int row = 0; row < rows - 1; row++) {
                cost += squareOfLack(rowWidth(firsts[row], firsts[row + 1]));
            }
            return cost;
        }

        /** Whether BREAK 0 makes so few rows on a board of this INNER, and none that is wider. */
        boolean isBrokenWithin(int mostRows, int newInner) {
            inner = newInner;
            breakEarly();
            return rows > 0 && rows <= mostRows && !hasWiderRow();
        }

        /** The cost after the exchange of two words, which is taken back, or NO_WAY without rows. */
        int costExchanged(int i, int j, int how) {
            exchange(i, j);
            breakWords(how);
            int cost = rows == 0 ? NO_WAY : costOfRows();
            exchange(i, j);
            return cost;
        }

        /** Of the words from one on, in at most so many rows, for all of both; then that of all words. */
        int findLeastCost() {
            for (int word = 0; word < words; word++) {
                leastCosts[word] = NO_WAY;
            }
            for (int left = 0; left <= MOST_ROWS; left++) {
                leastCosts[left * STARTS + words] = 0;
            }
            for (int left = 1; left <= MOST_ROWS; left++) {
                for (int from = words - 1; from >= 0; from--) {
                    leastCosts[left * STARTS + from] = leastCostFrom(from, left);
                }
            }
            return leastCosts[MOST_ROWS * STARTS];
        }

        private void addUp() {
            for (int word = 0; word < words; word++) {
                sums[word + 1] = sums[word] + widths[word];
            }
        }

        private void exchange(int i, int j) {
            int width = widths[i];
            widths[i] = widths[j];
            widths[j] = width;
            addUp();
        }

        private int rowWidth(int from, int to) {
            return (sums[to] - sums[from] + (to - from - 1) * space) * size;
        }

        private int squareOfLack(int width) {
            return width < inner ? (inner - width) * (inner - width) : 0;
        }

        private boolean hasWiderRow() {
            for (int row = 0; row < rows; row++) {
                if (rowWidth(firsts[row], firsts[row + 1]) > inner) {
                    return true;
                }
            }
            return false;
        }

        private void breakEarly() {
            int from = 0;
            rows = 0;
            while (rows < MOST_ROWS && from < words) {
                firsts[rows] = from;
                rows++;
                from++;
                while (from < words && rowWidth(firsts[rows - 1], from + 1) <= inner) {
                    from++;
                }
            }
            firsts[rows] = from;
            if (from < words) {
                rows = 0;
            }
        }

        /** Goes along the least costs that have been found. */
        private void breakCheaply() {
            int from = 0;
            rows = 0;
            while (rows < MOST_ROWS && from < words) {
                firsts[rows] = from;
                from = cheapestEnd(from, MOST_ROWS - rows);
                rows++;
            }
            firsts[rows] = from;
        }

        private int leastCostFrom(int from, int left) {
            int least = NO_WAY;
            for (int to = from + 1; to <= words; to++) {
                int width = rowWidth(from, to);
                if (to > from + 1 && width > inner) {
                    break;
                }
                int cost = costThrough(width, to, left);
                if (cost != NO_WAY && (least == NO_WAY || cost < least)) {
                    least = cost;
                }
            }
            return least;
        }

        /** The end of the longest row with which the least cost can still be reached. */
        private int cheapestEnd(int from, int left) {
            int least = leastCosts[left * STARTS + from];
            int best = words;
            for (int to = from + 1; to <= words; to++) {
                int width = rowWidth(from, to);
                if (to > from + 1 && width > inner) {
                    break;
                }
                if (costThrough(width, to, left) == least) {
                    best = to;
                }
            }
            return best;
        }

        /** The least cost of a row of this width and of what follows it; the last row costs nothing. */
        private int costThrough(int width, int to, int left) {
            int rest = leastCosts[(left - 1) * STARTS + to];
            if (rest == NO_WAY || to == words) {
                return rest;
            }
            return rest + squareOfLack(width);
        }
    }

    /** The rows as they stand on the board: their gaps, spaces and the places of their letters. */
    private static final class Rows {
        final Alphabet letters;
        final Setting setting;
        final WordWidths wordWidths;
        final Breaking breaking;
        final int[] gaps = new int[MOST_ROWS];
        final int[] widths = new int[MOST_ROWS];
        final int[] starts = new int[MOST_ROWS];
        final int[] spaces = new int[MOST_ROWS];
        final int[] wider = new int[MOST_ROWS];
        final int[] places = new int[MOST_WORDS * MOST_IN_WORD];
        final int[] distances = new int[MOST_WORDS * MOST_IN_WORD];

        Rows(Alphabet letters, Setting setting, WordWidths wordWidths, Breaking breaking) {
            this.letters = letters;
            this.setting = setting;
            this.wordWidths = wordWidths;
            this.breaking = breaking;
        }

        void renew() {
            for (int row = 0; row < breaking.rows; row++) {
                measure(row);
                int first = breaking.firsts[row];
                int place = starts[row];
                for (int word = first; word < breaking.firsts[row + 1]; word++) {
                    putLetters(word, gaps[row], place);
                    place += wordWidths.of(word, gaps[row]) * setting.numbers[SIZE];
                    place += spaceBehind(row, word - first);
                }
            }
        }

        int greatestGap(int row) {
            int gap = letters.cap;
            while (gap > setting.numbers[GAP] && widthWith(row, gap) > setting.numbers[INNER]) {
                gap--;
            }
            return gap;
        }

        int lettersIn(int row) {
            return setting.countLetters(breaking.firsts[row], breaking.firsts[row + 1]);
        }

        /** The space behind a word of a row; the first ones are 1 wider, as many as were left over. */
        int spaceBehind(int row, int i) {
            return spaces[row] + (i < wider[row] ? 1 : 0);
        }

        /** Where a letter of a row stands in the spelling of all words, or NOWHERE. */
        int spotOf(int row, int i) {
            int left = i;
            for (int word = breaking.firsts[row]; word < breaking.firsts[row + 1]; word++) {
                if (left < setting.lengths[word]) {
                    return word * MOST_IN_WORD + left;
                }
                left -= setting.lengths[word];
            }
            return NOWHERE;
        }

        boolean hasNext(int spot) {
            return spot % MOST_IN_WORD + 1 < setting.lengths[spot / MOST_IN_WORD];
        }

        int gapBehind(int row, int i) {
            int spot = spotOf(row, i);
            if (spot == NOWHERE || !hasNext(spot)) {
                return NOT_FOUND;
            }
            return letters.opticalGap(setting.spelling[spot], setting.spelling[spot + 1], distances[spot]);
        }

        boolean isOpenBehind(int spot, int band) {
            return letters.insetOf(setting.spelling[spot], true, band) == OPEN
                    || letters.insetOf(setting.spelling[spot + 1], false, band) == OPEN;
        }

        int whiteBehind(int spot, int band) {
            return letters.insetOf(setting.spelling[spot], true, band)
                    + letters.insetOf(setting.spelling[spot + 1], false, band) + distances[spot];
        }

        boolean touchesNext(int spot) {
            if (spot == NOWHERE || !hasNext(spot)) {
                return false;
            }
            for (int band = 0; band < BANDS; band++) {
                if (!isOpenBehind(spot, band) && whiteBehind(spot, band) <= 0) {
                    return true;
                }
            }
            return false;
        }

        boolean holds(int spot, int x) {
            if (spot == NOWHERE) {
                return false;
            }
            int wide = letters.wides[setting.spelling[spot]] * setting.numbers[SIZE];
            return places[spot] <= x && x < places[spot] + wide;
        }

        private int widthWith(int row, int gap) {
            int sum = (breaking.wordsIn(row) - 1) * setting.numbers[WORD];
            for (int word = breaking.firsts[row]; word < breaking.firsts[row + 1]; word++) {
                sum += wordWidths.of(word, gap);
            }
            return sum * setting.numbers[SIZE];
        }

        private void measure(int row) {
            int inner = setting.numbers[INNER];
            int count = breaking.wordsIn(row) - 1;
            gaps[row] = setting.filled ? greatestGap(row) : setting.numbers[GAP];
            widths[row] = widthWith(row, gaps[row]);
            spaces[row] = setting.numbers[WORD] * setting.numbers[SIZE];
            wider[row] = 0;
            if (setting.filled && count > 0 && widths[row] < inner) {
                int lack = inner - widths[row];
                spaces[row] += lack / count;
                wider[row] = lack % count;
                widths[row] = inner;
            }
            starts[row] = Math.max(0, inner - widths[row]) / 2;
        }

        private void putLetters(int word, int gap, int start) {
            int spot = word * MOST_IN_WORD;
            places[spot] = start;
            for (int k = 1; k < setting.lengths[word]; k++) {
                int a = setting.spelling[spot];
                int b = setting.spelling[spot + 1];
                distances[spot] = setting.corrected(a, b, letters.freeDistance(a, b, gap, LEAST_DISTANCE));
                int step = letters.wides[a] + distances[spot];
                places[spot + 1] = places[spot] + step * setting.numbers[SIZE];
                spot++;
            }
        }
    }

    /** Counts the bytes of a text and remembers a wanted one, so that no text is ever stored. */
    private static final class Sink {
        static final int MOST_DIGITS = 9;

        int length = 0;
        int wanted = NOWHERE;
        int found = NOT_FOUND;

        void open(int position) {
            length = 0;
            wanted = position;
            found = NOT_FOUND;
        }

        void add(int b) {
            if (length == wanted) {
                found = b;
            }
            length++;
        }

        void addText(String text) {
            for (int i = 0; i < text.length(); i++) {
                add(text.charAt(i));
            }
        }

        void addNumber(int number) {
            int unit = 1;
            for (int digits = 1; digits < MOST_DIGITS && number / unit >= 10; digits++) {
                unit *= 10;
            }
            for (int rest = unit; rest > 0; rest /= 10) {
                add('0' + number / rest % 10);
            }
        }
    }
}
