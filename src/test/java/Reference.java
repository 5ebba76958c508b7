import java.util.ArrayDeque;
import java.util.ArrayList;
import java.util.Arrays;
import java.util.List;
import java.util.TreeMap;
import java.util.regex.Matcher;
import java.util.regex.Pattern;

/**
 * The document once more, in the slowest and plainest form: nothing is stored but what was told,
 * and all else is counted anew for each call. It is written apart from the class, to be compared with it.
 */
final class Reference {
    private static final int INVALID = -1;
    private static final int NOT_FOUND = -2;
    private static final int OPEN = -7;

    /** A letter as it was told; side 0 is the left one. */
    private static final class Told {
        int wide;
        final int[][] side = new int[2][6];
    }

    /** What operations change. */
    private static final class State {
        int[] numbers = {100, 100, 2, 3, 8, 1};
        int how = 0;
        boolean fill = false;
        TreeMap<String, Integer> pairs = new TreeMap<>();
        List<String> words = new ArrayList<>();

        State copy() {
            State s = new State();
            s.numbers = numbers.clone();
            s.how = how;
            s.fill = fill;
            s.pairs = new TreeMap<>(pairs);
            s.words = new ArrayList<>(words);
            return s;
        }
    }

    private String tape = "";
    private int error = NOT_FOUND;
    private int cap = 10;
    private TreeMap<Character, Told> letters = new TreeMap<>();
    private State s = new State();
    private ArrayDeque<State> done = new ArrayDeque<>();
    private State[] slots = new State[2];

    Reference() {
        Told a = new Told();
        a.wide = 10;
        Arrays.fill(a.side[0], 1);
        Arrays.fill(a.side[1], 1);
        letters.put('a', a);
    }

    // ---- texts that are read

    int append(int a, int b, int c, int d, int e) {
        if (tape.length() + 20 > 2000) {
            return INVALID;
        }
        for (int bits : new int[] {a, b, c, d, e}) {
            tape += (char) (bits >>> 24 & 255);
            tape += (char) (bits >>> 16 & 255);
            tape += (char) (bits >>> 8 & 255);
            tape += (char) (bits & 255);
        }
        return tape.length();
    }

    int truncate(int n) {
        if (n < 0 || n > tape.length()) {
            return INVALID;
        }
        tape = tape.substring(0, tape.length() - n);
        return tape.length();
    }

    int tapeLength() {
        return tape.length();
    }

    int errorPosition() {
        return error;
    }

    /** A token that cannot stand. */
    private static final class Stop extends RuntimeException {
        private static final long serialVersionUID = 1;
        final int position;

        Stop(int position) {
            super("stop");
            this.position = position;
        }
    }

    private List<String> tokens;
    private List<Integer> places;
    private int next;

    private void cut(String text) {
        tokens = new ArrayList<>();
        places = new ArrayList<>();
        next = 0;
        Matcher m = Pattern.compile("[a-z]+|[0-9]+|[^ \\n]").matcher(text);
        while (m.find()) {
            tokens.add(m.group());
            places.add(m.start());
        }
        tokens.add("");
        places.add(text.length());
    }

    private boolean sees(String token) {
        return tokens.get(next).equals(token);
    }

    private String take(String pattern) {
        String token = tokens.get(next);
        if (!token.matches(pattern)) {
            throw new Stop(places.get(next));
        }
        next++;
        return token;
    }

    private int takeInt(int least, int most) {
        int v = Integer.parseInt(take("[0-9]{1,4}"));
        if (v < least || v > most) {
            throw new Stop(places.get(next - 1));
        }
        return v;
    }

    private char takeLetter(boolean told, TreeMap<Character, Told> all) {
        char c = take("[a-z]").charAt(0);
        if (all.containsKey(c) != told) {
            throw new Stop(places.get(next - 1));
        }
        return c;
    }

    int load() {
        String text = tape;
        tape = "";
        try {
            readSetup(text);
            error = NOT_FOUND;
            return letters.size();
        } catch (Stop stop) {
            error = stop.position;
            return INVALID;
        }
    }

    private void readSetup(String text) {
        cut(text);
        State read = new State();
        TreeMap<Character, Told> told = new TreeMap<>();
        take("board");
        read.numbers[0] = takeInt(10, 9999);
        read.numbers[1] = takeInt(1, 9999);
        take("lead");
        read.numbers[2] = takeInt(0, 99);
        take("cap");
        int readCap = takeInt(1, 30);
        take("gap");
        read.numbers[3] = takeInt(0, readCap);
        take("word");
        read.numbers[4] = takeInt(0, 99);
        take("size");
        read.numbers[5] = takeInt(1, 9);
        take(";");
        do {
            take("letter");
            char c = takeLetter(false, told);
            Told t = new Told();
            take("wide");
            t.wide = takeInt(1, 60);
            for (int side = 0; side < 2; side++) {
                take(side == 0 ? "left" : "right");
                for (int band = 0; band < 6; band++) {
                    boolean open = sees("open");
                    t.side[side][band] = open ? OPEN : takeInt(0, 9);
                    next += open ? 1 : 0;
                }
            }
            take(";");
            told.put(c, t);
        } while (sees("letter"));
        while (!sees("")) {
            take("pair");
            char a = takeLetter(true, told);
            char b = takeLetter(true, told);
            int sign = take("closer|wider").equals("closer") ? -1 : 1;
            tell(read, a, b, sign * takeInt(0, 9));
            take(";");
        }
        s = read;
        cap = readCap;
        letters = told;
        done.clear();
        slots = new State[2];
    }

    private static void tell(State state, char a, char b, int v) {
        if (v == 0) {
            state.pairs.remove("" + a + b);
        } else {
            state.pairs.put("" + a + b, v);
        }
    }

    int say() {
        String text = tape;
        tape = "";
        List<String> words = new ArrayList<>();
        String word = "";
        for (int i = 0; i < text.length(); i++) {
            char c = text.charAt(i);
            boolean white = c == ' ' || c == '\n';
            if (!white && (!letters.containsKey(c) || word.length() == 12 || words.size() == 30)) {
                error = i;
                return INVALID;
            }
            if (!white) {
                word += c;
            } else if (!word.isEmpty()) {
                words.add(word);
                word = "";
            }
        }
        if (!word.isEmpty()) {
            words.add(word);
        }
        error = NOT_FOUND;
        begin();
        s.words = words;
        return words.size();
    }

    // ---- operations

    private void begin() {
        done.addLast(s.copy());
        if (done.size() > 8) {
            done.removeFirst();
        }
    }

    int setNumber(int what, int v) {
        if (what < 0 || what > 5) {
            return INVALID;
        }
        int[] least = {10, 1, 0, 0, 0, 1};
        int[] most = {9999, 9999, 99, cap, 99, 9};
        if (v < least[what] || v > most[what]) {
            return INVALID;
        }
        int earlier = s.numbers[what];
        if (v == earlier) {
            return NOT_FOUND;
        }
        begin();
        s.numbers[what] = v;
        return earlier;
    }

    int correct(int a, int b, int v) {
        if (!told(a) || !told(b) || v < -9 || v > 9) {
            return INVALID;
        }
        int earlier = corr(a, b);
        if (v == earlier) {
            return NOT_FOUND;
        }
        begin();
        tell(s, sign(a), sign(b), v);
        return earlier + 9;
    }

    int setBreak(int how) {
        if (how < 0 || how > 1) {
            return INVALID;
        }
        int earlier = s.how;
        if (how == earlier) {
            return NOT_FOUND;
        }
        begin();
        s.how = how;
        return earlier;
    }

    int setFill(boolean on) {
        if (on == s.fill) {
            return NOT_FOUND;
        }
        begin();
        s.fill = on;
        return 1;
    }

    int swap(int i, int j) {
        if (i < 0 || j < 0 || i >= s.words.size() || j >= s.words.size() || i == j) {
            return INVALID;
        }
        begin();
        exchange(s.words, i, j);
        return rows().size();
    }

    private static void exchange(List<String> words, int i, int j) {
        String word = words.get(i);
        words.set(i, words.get(j));
        words.set(j, word);
    }

    int keep(int slot) {
        if (slot < 0 || slot > 1) {
            return INVALID;
        }
        slots[slot] = s.copy();
        return s.words.size();
    }

    int restore(int slot) {
        if (slot < 0 || slot > 1) {
            return INVALID;
        }
        if (slots[slot] == null) {
            return NOT_FOUND;
        }
        begin();
        s = slots[slot].copy();
        return s.words.size();
    }

    int undo() {
        if (done.isEmpty()) {
            return INVALID;
        }
        s = done.removeLast();
        return done.size();
    }

    // ---- letters and pairs

    private static char sign(int letter) {
        return (char) ('a' + letter);
    }

    private boolean told(int letter) {
        return letter >= 0 && letter <= 25 && letters.containsKey(sign(letter));
    }

    private Told told(char c) {
        return letters.get(c);
    }

    private int corr(int a, int b) {
        return s.pairs.getOrDefault("" + sign(a) + sign(b), 0);
    }

    private int optical(char a, char b, int d) {
        int sum = 0;
        for (int band = 0; band < 6; band++) {
            int right = told(a).side[1][band];
            int left = told(b).side[0][band];
            int between = right + d + left;
            if (right == OPEN || left == OPEN || between > cap) {
                between = cap;
            }
            sum += between < 0 ? 0 : between;
        }
        return sum / 6;
    }

    private int dist(char a, char b, int gap, int corr) {
        int d = -9;
        while (optical(a, b, d) < gap) {
            d++;
        }
        return d + corr < -9 ? -9 : d + corr;
    }

    private int dist(char a, char b, int gap) {
        return dist(a, b, gap, corr(a - 'a', b - 'a'));
    }

    int value(int what) {
        switch (what) {
            case 6: return cap;
            case 7: return s.how;
            case 8: return s.fill ? 1 : 0;
            case 9: return letters.size();
            case 10: return s.pairs.size();
            case 11: return s.words.size();
            case 12: return rows().size();
            case 13: return String.join("", s.words).length();
            default: return what >= 0 && what < 6 ? s.numbers[what] : INVALID;
        }
    }

    int inset(int letter, boolean right, int band) {
        if (!told(letter) || band < 0 || band > 5) {
            return INVALID;
        }
        int v = told(sign(letter)).side[right ? 1 : 0][band];
        return v == OPEN ? NOT_FOUND : v;
    }

    int letter(int letter, int what) {
        if (!told(letter) || what < 0 || what > 4) {
            return INVALID;
        }
        Told t = told(sign(letter));
        int[] sum = new int[2];
        int open = 0;
        for (int i = 0; i < 12; i++) {
            int v = t.side[i / 6][i % 6];
            open += v == OPEN ? 1 : 0;
            sum[i / 6] += v == OPEN ? 0 : v;
        }
        int stands = 0;
        for (char c : String.join("", s.words).toCharArray()) {
            stands += c == sign(letter) ? 1 : 0;
        }
        return new int[] {t.wide, sum[0], sum[1], open, stands}[what];
    }

    int gapAt(int a, int b, int d) {
        return !told(a) || !told(b) || d < -9 || d > 99 ? INVALID : optical(sign(a), sign(b), d);
    }

    int distance(int a, int b, int gap) {
        return !told(a) || !told(b) || gap < 0 || gap > cap ? INVALID : dist(sign(a), sign(b), gap) + 9;
    }

    int correction(int a, int b) {
        return !told(a) || !told(b) ? INVALID : corr(a, b) + 9;
    }

    int extreme(boolean greatest) {
        int best = 0;
        int bestKey = Integer.MIN_VALUE;
        for (char a : letters.keySet()) {
            for (char b : letters.keySet()) {
                int d = dist(a, b, s.numbers[3]);
                int key = greatest ? d : -d;
                if (key > bestKey) {
                    bestKey = key;
                    best = 26 * (a - 'a') + b - 'a';
                }
            }
        }
        return best;
    }

    boolean mirrored(int letter) {
        return told(letter) && Arrays.equals(told(sign(letter)).side[0], told(sign(letter)).side[1]);
    }

    int alike(int letter, boolean right) {
        if (!told(letter)) {
            return INVALID;
        }
        int side = right ? 1 : 0;
        int count = -1;
        for (Told t : letters.values()) {
            count += Arrays.equals(t.side[side], told(sign(letter)).side[side]) ? 1 : 0;
        }
        return count;
    }

    // ---- words and rows

    private int width(String word, int gap) {
        int sum = 0;
        for (int k = 0; k < word.length(); k++) {
            sum += told(word.charAt(k)).wide;
            sum += k == 0 ? 0 : dist(word.charAt(k - 1), word.charAt(k), gap);
        }
        return sum < 1 ? 1 : sum;
    }

    private List<Integer> widths(List<String> words, int gap) {
        List<Integer> all = new ArrayList<>();
        for (String word : words) {
            all.add(width(word, gap));
        }
        return all;
    }

    /** The width of a row of words of these widths, with the spaces that FILL does not change. */
    private int rowWidth(List<Integer> widths, int size) {
        int sum = (widths.size() - 1) * s.numbers[4];
        for (int w : widths) {
            sum += w;
        }
        return sum * size;
    }

    /** The numbers of words in the rows by BREAK 0, however many rows these are. */
    private List<Integer> greedy(List<Integer> widths, int size, int inner) {
        List<Integer> counts = new ArrayList<>();
        for (int from = 0; from < widths.size(); ) {
            int n = 1;
            while (from + n < widths.size() && rowWidth(widths.subList(from, from + n + 1), size) <= inner) {
                n++;
            }
            counts.add(n);
            from += n;
        }
        return counts;
    }

    private int costOf(List<Integer> widths, List<Integer> counts, int size) {
        int cost = 0;
        int from = 0;
        for (int row = 0; row + 1 < counts.size(); row++) {
            int lack = s.numbers[0] - rowWidth(widths.subList(from, from + counts.get(row)), size);
            cost += lack > 0 ? lack * lack : 0;
            from += counts.get(row);
        }
        return cost;
    }

    /** Whether the first way is better: less cost, or the first row that differs has more words. */
    private boolean better(List<Integer> a, List<Integer> b, List<Integer> widths, int size) {
        int costA = costOf(widths, a, size);
        int costB = costOf(widths, b, size);
        if (costA != costB) {
            return costA < costB;
        }
        for (int i = 0; i < a.size() && i < b.size(); i++) {
            if (!a.get(i).equals(b.get(i))) {
                return a.get(i) > b.get(i);
            }
        }
        return false;
    }

    /** The best way of BREAK 1 in at most so many rows, or null; the memory is for words.size() by rows. */
    private List<Integer> best(List<Integer> widths, int size, int rows, TreeMap<Integer, List<Integer>> memory) {
        if (widths.isEmpty()) {
            return new ArrayList<>();
        }
        if (rows == 0) {
            return null;
        }
        int key = widths.size() * 100 + rows;
        if (memory.containsKey(key)) {
            return memory.get(key);
        }
        List<Integer> best = null;
        for (int n = 1; n <= widths.size(); n++) {
            if (n > 1 && rowWidth(widths.subList(0, n), size) > s.numbers[0]) {
                break;
            }
            List<Integer> rest = best(widths.subList(n, widths.size()), size, rows - 1, memory);
            if (rest != null) {
                List<Integer> way = new ArrayList<>();
                way.add(n);
                way.addAll(rest);
                if (best == null || better(way, best, widths, size)) {
                    best = way;
                }
            }
        }
        memory.put(key, best);
        return best;
    }

    private List<Integer> broken(List<Integer> widths, int size) {
        List<Integer> counts = s.how == 0 ? greedy(widths, size, s.numbers[0]) : best(widths, size, 12, new TreeMap<>());
        return counts == null || counts.size() > 12 ? new ArrayList<>() : counts;
    }

    private List<Integer> rows() {
        return broken(widths(s.words, s.numbers[3]), s.numbers[5]);
    }

    private int firstWord(int row) {
        int first = 0;
        for (int n : rows().subList(0, row)) {
            first += n;
        }
        return first;
    }

    private List<String> wordsOf(int row) {
        return s.words.subList(firstWord(row), firstWord(row) + rows().get(row));
    }

    private boolean hasRow(int row) {
        return row >= 0 && row < rows().size();
    }

    int word(int i, int what) {
        if (i < 0 || i >= s.words.size() || what < 0 || what > 3) {
            return INVALID;
        }
        if (what == 0) {
            return s.words.get(i).length();
        }
        if (what == 1) {
            return width(s.words.get(i), s.numbers[3]) * s.numbers[5];
        }
        int left = i;
        List<Integer> counts = rows();
        for (int row = 0; row < counts.size(); row++) {
            if (left < counts.get(row)) {
                return what == 2 ? row : left;
            }
            left -= counts.get(row);
        }
        return NOT_FOUND;
    }

    int spelled(int i, int k) {
        if (i < 0 || i >= s.words.size() || k < 0) {
            return INVALID;
        }
        return k < s.words.get(i).length() ? s.words.get(i).charAt(k) - 'a' : NOT_FOUND;
    }

    int longest() {
        List<Integer> all = widths(s.words, s.numbers[3]);
        return all.isEmpty() ? NOT_FOUND : all.indexOf(all.stream().max(Integer::compare).get());
    }

    private int filledGap(int row) {
        int best = s.numbers[3];
        for (int gap = s.numbers[3]; gap <= cap; gap++) {
            if (rowWidth(widths(wordsOf(row), gap), s.numbers[5]) <= s.numbers[0]) {
                best = gap;
            }
        }
        return best;
    }

    private int rowGap(int row) {
        return s.fill ? filledGap(row) : s.numbers[3];
    }

    private int[] spaces(int row) {
        int[] spaces = new int[wordsOf(row).size() - 1];
        Arrays.fill(spaces, s.numbers[4] * s.numbers[5]);
        if (s.fill && spaces.length > 0) {
            int lack = s.numbers[0] - rowWidth(widths(wordsOf(row), rowGap(row)), s.numbers[5]);
            for (int i = 0; lack > 0; i = (i + 1) % spaces.length) {
                spaces[i]++;
                lack--;
            }
        }
        return spaces;
    }

    private int fullWidth(int row) {
        int sum = 0;
        for (int w : widths(wordsOf(row), rowGap(row))) {
            sum += w * s.numbers[5];
        }
        for (int space : spaces(row)) {
            sum += space;
        }
        return sum;
    }

    private int lack(int row) {
        return fullWidth(row) > s.numbers[0] ? 0 : s.numbers[0] - fullWidth(row);
    }

    int row(int row, int what) {
        if (!hasRow(row) || what < 0 || what > 8) {
            return INVALID;
        }
        int[] spaces = spaces(row);
        Arrays.sort(spaces);
        switch (what) {
            case 0: return firstWord(row);
            case 1: return rows().get(row);
            case 2: return String.join("", wordsOf(row)).length();
            case 3: return rowGap(row);
            case 4: return fullWidth(row);
            case 5: return lack(row) / 2;
            case 6: return lack(row);
            case 7: return spaces.length == 0 ? NOT_FOUND : spaces[0];
            default: return spaces.length == 0 ? NOT_FOUND : spaces[spaces.length - 1];
        }
    }

    /** For each letter of a row: the letter, its place, the next letter of its word or 0, their distance. */
    private List<int[]> laid(int row) {
        List<int[]> laid = new ArrayList<>();
        int x = lack(row) / 2;
        int size = s.numbers[5];
        int gap = rowGap(row);
        int[] spaces = spaces(row);
        List<String> words = wordsOf(row);
        for (int w = 0; w < words.size(); w++) {
            String word = words.get(w);
            int at = x;
            for (int k = 0; k < word.length(); k++) {
                char c = word.charAt(k);
                char next = k + 1 < word.length() ? word.charAt(k + 1) : 0;
                int d = next == 0 ? 0 : dist(c, next, gap);
                laid.add(new int[] {c, at, next, d});
                at += (told(c).wide + d) * size;
            }
            x += width(word, gap) * size + (w < spaces.length ? spaces[w] : 0);
        }
        return laid;
    }

    int letterAt(int row, int i) {
        if (!hasRow(row) || i < 0) {
            return INVALID;
        }
        return i < laid(row).size() ? laid(row).get(i)[0] - 'a' : NOT_FOUND;
    }

    int place(int row, int i) {
        if (!hasRow(row) || i < 0) {
            return INVALID;
        }
        return i < laid(row).size() ? laid(row).get(i)[1] + 1000 : NOT_FOUND;
    }

    private List<Integer> gaps(int row) {
        List<Integer> gaps = new ArrayList<>();
        for (int[] l : laid(row)) {
            gaps.add(l[2] == 0 ? NOT_FOUND : optical((char) l[0], (char) l[2], l[3]));
        }
        return gaps;
    }

    int gap(int row, int i) {
        if (!hasRow(row) || i < 0) {
            return INVALID;
        }
        List<Integer> gaps = gaps(row);
        return i < gaps.size() ? gaps.get(i) : NOT_FOUND;
    }

    int uneven(int row) {
        if (!hasRow(row)) {
            return INVALID;
        }
        List<Integer> gaps = gaps(row);
        gaps.removeIf(g -> g == NOT_FOUND);
        gaps.sort(null);
        return gaps.isEmpty() ? NOT_FOUND : gaps.get(gaps.size() - 1) - gaps.get(0);
    }

    int white(int row, int i, int band) {
        if (!hasRow(row) || i < 0 || band < 0 || band > 5) {
            return INVALID;
        }
        List<int[]> laid = laid(row);
        return i < laid.size() ? white(laid.get(i), band) : NOT_FOUND;
    }

    private int white(int[] l, int band) {
        if (l[2] == 0) {
            return NOT_FOUND;
        }
        int right = told((char) l[0]).side[1][band];
        int left = told((char) l[2]).side[0][band];
        return right == OPEN || left == OPEN ? NOT_FOUND : (right + left + l[3]) * s.numbers[5] + 1000;
    }

    int touches(int row) {
        if (!hasRow(row)) {
            return INVALID;
        }
        int count = 0;
        for (int[] l : laid(row)) {
            boolean touching = false;
            for (int band = 0; band < 6; band++) {
                int white = white(l, band);
                touching |= white != NOT_FOUND && white <= 1000;
            }
            count += touching ? 1 : 0;
        }
        return count;
    }

    int widest(boolean fullest) {
        int best = NOT_FOUND;
        for (int row = rows().size() - 1; row >= 0; row--) {
            int more = best < 0 ? 0 : fullWidth(row) - fullWidth(best);
            best = best < 0 || (fullest ? more >= 0 : more <= 0) ? row : best;
        }
        return best;
    }

    int at(int row, int x) {
        if (!hasRow(row) || x < 0 || x > 9999) {
            return INVALID;
        }
        List<int[]> laid = laid(row);
        for (int i = 0; i < laid.size(); i++) {
            int from = laid.get(i)[1];
            if (from <= x && from + told((char) laid.get(i)[0]).wide * s.numbers[5] > x) {
                return i;
            }
        }
        return NOT_FOUND;
    }

    // ---- fitting

    private boolean fitsNow() {
        if (s.words.isEmpty()) {
            return true;
        }
        List<Integer> counts = rows();
        int from = 0;
        for (int n : counts) {
            if (rowWidth(widths(s.words.subList(from, from + n), s.numbers[3]), s.numbers[5]) > s.numbers[0]) {
                return false;
            }
            from += n;
        }
        return !counts.isEmpty() && height() <= s.numbers[1];
    }

    private int greatestThatFits(int what, int least, int most) {
        int earlier = s.numbers[what];
        int best = NOT_FOUND;
        for (int v = least; v <= most; v++) {
            s.numbers[what] = v;
            best = fitsNow() ? v : best;
        }
        s.numbers[what] = earlier;
        return best;
    }

    boolean fits() {
        return fitsNow();
    }

    int bestSize() {
        return greatestThatFits(5, 1, 9);
    }

    int bestGap() {
        return greatestThatFits(3, 0, cap);
    }

    int leastInner(int rows) {
        if (rows < 1 || rows > 12) {
            return INVALID;
        }
        List<Integer> widths = widths(s.words, s.numbers[3]);
        for (int inner = 10; inner <= 9999 && !widths.isEmpty(); inner++) {
            List<Integer> counts = greedy(widths, s.numbers[5], inner);
            boolean good = counts.size() <= rows;
            int from = 0;
            for (int n : counts) {
                good &= rowWidth(widths.subList(from, from + n), s.numbers[5]) <= inner;
                from += n;
            }
            if (good) {
                return inner;
            }
        }
        return NOT_FOUND;
    }

    int height() {
        int n = rows().size();
        return n == 0 ? 0 : 6 * s.numbers[5] * n + s.numbers[2] * (n - 1);
    }

    int cost() {
        return rows().isEmpty() ? NOT_FOUND : costOf(widths(s.words, s.numbers[3]), rows(), s.numbers[5]);
    }

    int leastCost() {
        List<Integer> widths = widths(s.words, s.numbers[3]);
        List<Integer> best = best(widths, s.numbers[5], 12, new TreeMap<>());
        return best == null || widths.isEmpty() ? NOT_FOUND : costOf(widths, best, s.numbers[5]);
    }

    int fillGap(int row) {
        return hasRow(row) ? filledGap(row) : INVALID;
    }

    int bestSwap() {
        int best = NOT_FOUND;
        int least = cost();
        for (int i = 0; i < s.words.size() && least != NOT_FOUND; i++) {
            for (int j = i + 1; j < s.words.size(); j++) {
                exchange(s.words, i, j);
                int cost = s.words.get(i).equals(s.words.get(j)) ? least : cost();
                exchange(s.words, i, j);
                if (cost >= 0 && cost < least) {
                    least = cost;
                    best = 100 * i + j;
                }
            }
        }
        return best;
    }

    int bestCorrection(int a, int b) {
        if (!told(a) || !told(b)) {
            return INVALID;
        }
        int best = 0;
        int bestKey = Integer.MAX_VALUE;
        for (int v = -9; v <= 9; v++) {
            int gap = optical(sign(a), sign(b), dist(sign(a), sign(b), s.numbers[3], v));
            int key = Math.abs(gap - s.numbers[3]) * 1000 + Math.abs(v) * 10 + (v < 0 ? 0 : 1);
            if (key < bestKey) {
                bestKey = key;
                best = v;
            }
        }
        return best + 9;
    }

    // ---- rates

    float full(int row) {
        return hasRow(row) ? (float) fullWidth(row) / (float) s.numbers[0] : -1f;
    }

    double meanGap() {
        double sum = 0;
        double count = 0;
        for (int row = 0; row < rows().size(); row++) {
            for (int gap : gaps(row)) {
                sum += gap == NOT_FOUND ? 0 : gap;
                count += gap == NOT_FOUND ? 0 : 1;
            }
        }
        return count == 0 ? 0 : sum / count;
    }

    // ---- texts that are written

    private String view() {
        String text = "";
        for (int row = 0; row < rows().size(); row++) {
            text += lack(row) / 2 + ":" + String.join(" ", wordsOf(row)) + " " + rowGap(row) + "\n";
        }
        return text;
    }

    private String setup() {
        int[] n = s.numbers;
        String text = String.format("board %d %d lead %d cap %d gap %d word %d size %d;",
                n[0], n[1], n[2], cap, n[3], n[4], n[5]);
        for (char c : letters.keySet()) {
            text += "letter " + c + " wide " + told(c).wide;
            for (int side = 0; side < 2; side++) {
                text += side == 0 ? " left" : " right";
                for (int v : told(c).side[side]) {
                    text += v == OPEN ? " open" : " " + v;
                }
            }
            text += ";";
        }
        for (String pair : s.pairs.keySet()) {
            int v = s.pairs.get(pair);
            text += "pair " + pair.charAt(0) + " " + pair.charAt(1) + (v < 0 ? " closer " : " wider ") + Math.abs(v) + ";";
        }
        return text;
    }

    private static int byteOf(String text, int i) {
        return i < 0 ? INVALID : i < text.length() ? text.charAt(i) : NOT_FOUND;
    }

    int viewLength() {
        return view().length();
    }

    int viewByte(int i) {
        return byteOf(view(), i);
    }

    int setupLength() {
        return setup().length();
    }

    int setupByte(int i) {
        return byteOf(setup(), i);
    }
}
