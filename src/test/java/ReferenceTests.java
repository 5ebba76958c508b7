import java.lang.reflect.Method;
import java.lang.reflect.Modifier;
import java.util.ArrayList;
import java.util.List;
import java.util.Random;

/** Long runs of calls with good and wrong arguments, each answer held against the reference. */
final class ReferenceTests {
    private static final int RUNS = 240;
    private static final int CALLS = 512;

    private final Random random;
    private final List<Method> asking = new ArrayList<>();
    private final StringBuilder story = new StringBuilder();
    private BoardLetters x = new BoardLetters();
    private Reference y = new Reference();
    private String told = "a";
    private int calls = 0;
    private boolean wrong = false;

    private ReferenceTests(long seed) {
        random = new Random(seed);
        for (Method m : BoardLetters.class.getDeclaredMethods()) {
            if (Modifier.isPublic(m.getModifiers()) && !List.of("append", "truncate", "load", "say").contains(m.getName())) {
                asking.add(m);
            }
        }
        asking.sort((a, b) -> a.getName().compareTo(b.getName()));
    }

    public static void main(String[] args) throws ReflectiveOperationException {
        int runs = args.length > 0 ? Integer.parseInt(args[0]) : RUNS;
        int from = args.length > 1 ? Integer.parseInt(args[1]) : 1;
        for (int seed = from; seed < from + runs; seed++) {
            ReferenceTests test = new ReferenceTests(seed);
            test.run();
            Check.dueTruth("run " + seed + " agrees with the reference", !test.wrong, true);
        }
        Check.finish("ReferenceTests");
    }

    private void run() throws ReflectiveOperationException {
        if (random.nextInt(8) != 0) {
            read(setupText(), "load");
        }
        read(wordsText(), "say");
        while (calls < CALLS && !wrong) {
            int dice = random.nextInt(100);
            if (dice < 1) {
                read(random.nextInt(3) == 0 ? spoiled(setupText()) : setupText(), "load");
                read(wordsText(), "say");
            } else if (dice < 4) {
                read(random.nextInt(4) == 0 ? spoiled(wordsText()) : wordsText(), "say");
            } else if (dice < 5) {
                call("append", number(), number(), number(), number(), number());
            } else if (dice < 6) {
                call("truncate", random.nextInt(40) - 5);
            } else {
                Method m = asking.get(random.nextInt(asking.size()));
                call(m.getName(), arguments(m));
            }
        }
    }

    private void read(String text, String how) throws ReflectiveOperationException {
        call("truncate", x.tapeLength());
        for (int i = 0; i < text.length(); i += 20) {
            call("append", Check.four(text, i), Check.four(text, i + 4), Check.four(text, i + 8),
                    Check.four(text, i + 12), Check.four(text, i + 16));
        }
        call("truncate", (20 - text.length() % 20) % 20);
        call(how);
        call("errorPosition");
        StringBuilder letters = new StringBuilder();
        for (char c = 'a'; c <= 'z'; c++) {
            letters.append(y.letter(c - 'a', 0) > 0 ? String.valueOf(c) : "");
        }
        told = letters.toString();
    }

    private void call(String name, Object... arguments) throws ReflectiveOperationException {
        if (calls >= CALLS || wrong) {
            return;
        }
        calls++;
        Class<?>[] types = new Class<?>[arguments.length];
        for (int i = 0; i < types.length; i++) {
            types[i] = arguments[i] instanceof Boolean ? boolean.class : int.class;
        }
        Method mine = BoardLetters.class.getDeclaredMethod(name, types);
        Method due = Reference.class.getDeclaredMethod(name, types);
        Object got = mine.invoke(x, arguments);
        Object want = due.invoke(y, arguments);
        story.append(name).append(java.util.Arrays.toString(arguments)).append(" = ").append(got).append('\n');
        if (!got.equals(want)) {
            wrong = true;
            System.out.println(story + "due is " + want);
        }
    }

    private Object[] arguments(Method m) {
        Object[] arguments = new Object[m.getParameterCount()];
        for (int i = 0; i < arguments.length; i++) {
            arguments[i] = m.getParameterTypes()[i] == boolean.class ? (Object) random.nextBoolean() : (Object) argument(m.getName(), i);
        }
        if (m.getName().equals("setNumber") && random.nextInt(10) != 0) {
            int what = random.nextInt(6);
            int[] most = {random.nextInt(5) == 0 ? 10100 : 700, 400, 110, 12, 60, 10};
            arguments[0] = what;
            arguments[1] = random.nextInt(what == 5 ? 4 : most[what] + 1) - (random.nextInt(9) == 0 ? 1 : 0);
        }
        return arguments;
    }

    private int argument(String name, int i) {
        if (random.nextInt(40) == 0) {
            return number();
        }
        if (i == 0 && List.of("row", "letterAt", "place", "gap", "uneven", "white", "touches", "at", "fillGap", "full").contains(name)) {
            return random.nextInt(y.value(12) + 2) - (random.nextInt(9) == 0 ? 1 : 0);
        }
        if (name.equals("swap") || i == 0 && (name.equals("word") || name.equals("spelled"))) {
            return random.nextInt(y.value(11) + 1) - (random.nextInt(9) == 0 ? 1 : 0);
        }
        boolean ofLetters = List.of("inset", "letter", "mirrored", "alike", "gapAt", "distance", "correct", "correction", "bestCorrection").contains(name);
        boolean second = List.of("gapAt", "distance", "correct", "correction", "bestCorrection").contains(name);
        if (ofLetters && (i == 0 || i == 1 && second)) {
            return random.nextInt(12) == 0 ? random.nextInt(28) - 1 : told.charAt(random.nextInt(told.length())) - 'a';
        }
        switch (name) {
            case "correct": return random.nextInt(21) - 10;
            case "gapAt": return random.nextInt(random.nextBoolean() ? 25 : 112) - 10;
            case "distance": return random.nextInt(14) - 1;
            case "viewByte": return random.nextInt(120) - 1;
            case "setupByte": return random.nextInt(random.nextBoolean() ? 60 : 600) - 1;
            case "at": return random.nextInt(300) - 2;
            case "value": return random.nextInt(16) - 1;
            case "word": return random.nextInt(6) - 1;
            case "row": return random.nextInt(11) - 1;
            case "letterAt": case "place": case "gap":
                return random.nextInt(30) - 1;
            case "white": return i == 1 ? random.nextInt(20) - 1 : random.nextInt(8) - 1;
            case "keep": case "restore": return random.nextInt(6) == 0 ? random.nextInt(5) - 2 : random.nextInt(2);
            case "setBreak": return random.nextInt(6) == 0 ? random.nextInt(5) - 2 : random.nextInt(2);
            default: return random.nextInt(15) - 1;
        }
    }

    private int number() {
        int[] some = {Integer.MIN_VALUE, Integer.MAX_VALUE, -1, -2, 0, 1, 26, 25, 100, 1000, 9999, 10000, 65536, 2001, -9, -10};
        return random.nextInt(3) == 0 ? random.nextInt() : some[random.nextInt(some.length)];
    }

    private String setupText() {
        int cap = 1 + random.nextInt(random.nextInt(3) == 0 ? 30 : 12);
        int inner = random.nextInt(6) == 0 ? 10 + random.nextInt(9990) : 20 + random.nextInt(250);
        StringBuilder text = new StringBuilder();
        text.append("board ").append(inner).append(white()).append(1 + random.nextInt(120));
        text.append(white()).append("lead ").append(random.nextInt(12)).append(" cap").append(white()).append(cap);
        text.append(" gap ").append(random.nextInt(cap + 1)).append(" word ").append(random.nextInt(random.nextInt(4) == 0 ? 100 : 12));
        text.append(" size ").append(1 + random.nextInt(random.nextInt(3) == 0 ? 9 : 2)).append(random.nextBoolean() ? ";" : " ; ");
        StringBuilder letters = new StringBuilder();
        int style = random.nextInt(4);
        for (int n = 1 + random.nextInt(7); n > 0; n--) {
            char c = (char) ('a' + random.nextInt(26));
            if (letters.indexOf(String.valueOf(c)) < 0) {
                letters.append(c);
                text.append("letter ").append(c).append(" wide ").append(1 + random.nextInt(style == 0 ? 60 : style == 1 ? 3 : 12));
                String left = side(style);
                text.append(" left").append(left).append(white()).append("right");
                text.append(random.nextInt(4) == 0 ? left : side(style)).append(';');
            }
        }
        for (int n = random.nextInt(6); n > 0; n--) {
            text.append("pair ").append(letters.charAt(random.nextInt(letters.length()))).append(white());
            text.append(letters.charAt(random.nextInt(letters.length())));
            text.append(random.nextBoolean() ? " closer " : " wider ").append(random.nextInt(10)).append(';');
        }
        return text.append(random.nextBoolean() ? "" : white()).toString();
    }

    private String side(int style) {
        StringBuilder text = new StringBuilder();
        int same = random.nextInt(10);
        for (int band = 0; band < 6; band++) {
            boolean open = random.nextInt(style == 2 ? 3 : 12) == 0;
            text.append(' ').append(open ? "open" : String.valueOf(style == 3 ? same : random.nextInt(random.nextBoolean() ? 4 : 10)));
        }
        return text.toString();
    }

    private String white() {
        return List.of(" ", "\n", "  ", " \n ").get(random.nextInt(4));
    }

    private String wordsText() {
        StringBuilder text = new StringBuilder();
        int count = random.nextInt(20) == 0 ? 0 : 1 + random.nextInt(random.nextInt(3) == 0 ? 30 : 12);
        int longest = 1 + random.nextInt(12);
        for (int n = 0; n < count; n++) {
            for (int k = 1 + random.nextInt(longest); k > 0; k--) {
                text.append(told.charAt(random.nextInt(told.length())));
            }
            text.append(white());
        }
        return text.toString();
    }

    /** A text with a byte or a piece of it changed, put in or taken out. */
    private String spoiled(String text) {
        StringBuilder spoiled = new StringBuilder(text);
        int at = random.nextInt(text.length() + 1);
        String put = List.of("z", "7", ";", " ", "open ", "letter a ", "00003", "\u00e9", "\0", "aaaaaaaaaaaaa", "A", "0").get(random.nextInt(12));
        switch (random.nextInt(3)) {
            case 0:
                spoiled.insert(at, put);
                break;
            case 1:
                spoiled.setLength(at);
                break;
            default:
                spoiled.replace(at, Math.min(text.length(), at + 1 + random.nextInt(4)), put);
                break;
        }
        return spoiled.toString();
    }
}
