import java.io.IOException;
import java.lang.reflect.Constructor;
import java.lang.reflect.Field;
import java.lang.reflect.Method;
import java.lang.reflect.Modifier;
import java.nio.file.Files;
import java.nio.file.Path;
import java.util.ArrayList;
import java.util.List;
import java.util.Set;
import java.util.TreeSet;

/** The public face of the document, and what of ../shared/LANGUAGE.md a test can see. */
final class FaceTests {
    private static final String[] FACE = {
        "int append(int,int,int,int,int)", "int truncate(int)", "int load()", "int errorPosition()", "int say()",
        "int setNumber(int,int)", "int correct(int,int,int)", "int setBreak(int)", "int setFill(boolean)",
        "int swap(int,int)", "int keep(int)", "int restore(int)", "int undo()", "int value(int)",
        "int inset(int,boolean,int)", "int letter(int,int)", "int gapAt(int,int,int)", "int distance(int,int,int)",
        "int correction(int,int)", "int extreme(boolean)", "boolean mirrored(int)", "int alike(int,boolean)",
        "int word(int,int)", "int spelled(int,int)", "int longest()", "int row(int,int)", "int letterAt(int,int)",
        "int place(int,int)", "int gap(int,int)", "int uneven(int)", "int white(int,int,int)", "int touches(int)",
        "int widest(boolean)", "int at(int,int)", "boolean fits()", "int bestSize()", "int bestGap()",
        "int leastInner(int)", "int height()", "int cost()", "int leastCost()", "int fillGap(int)", "int bestSwap()",
        "int bestCorrection(int,int)", "float full(int)", "double meanGap()", "int viewLength()", "int viewByte(int)",
        "int setupLength()", "int setupByte(int)", "int tapeLength()",
    };

    public static void main(String[] args) throws IOException {
        face();
        classesInside();
        parameters();
        source();
        headings();
        Check.finish("FaceTests");
    }

    /** What the interface says ahead of calls, and the first and the last one of these. */
    private static final String[][] HEADINGS = {
        {"texts that are read", "append", "errorPosition"}, {"operations", "say", "undo"},
        {"letters and pairs", "value", "alike"}, {"words", "word", "longest"}, {"rows", "row", "at"},
        {"fitting", "fits", "bestCorrection"}, {"rates", "full", "meanGap"},
        {"texts that are written", "viewLength", "tapeLength"},
    };

    private static void face() {
        Class<?> type = BoardLetters.class;
        Set<String> due = new TreeSet<>(Set.of(FACE));
        Set<String> found = new TreeSet<>();
        Set<String> names = new TreeSet<>();
        for (Method m : type.getDeclaredMethods()) {
            if (!Modifier.isPrivate(m.getModifiers())) {
                found.add(signature(m));
                names.add(m.getName());
                Check.due("modifiers of " + m.getName(), m.getModifiers(), Modifier.PUBLIC);
            }
        }
        Check.dueText("methods", found.toString(), due.toString());
        for (Method m : type.getDeclaredMethods()) {
            Check.dueTruth("private " + m.getName(), Modifier.isPrivate(m.getModifiers()) && names.contains(m.getName()), false);
        }
        Set<String> constants = new TreeSet<>();
        for (Field f : type.getDeclaredFields()) {
            if (!Modifier.isPrivate(f.getModifiers())) {
                constants.add(Modifier.toString(f.getModifiers()) + " " + f.getType() + " " + f.getName());
            }
            Check.dueTruth(f.getName() + " static and not final", Modifier.isStatic(f.getModifiers()) && !Modifier.isFinal(f.getModifiers()), false);
        }
        Check.dueText("constants", constants.toString(), "[public static final int INVALID, public static final int NOT_FOUND]");
        Constructor<?>[] constructors = type.getDeclaredConstructors();
        Check.due("constructors", constructors.length, 1);
        Check.dueText("constructor", constructors[0].toString(), "public BoardLetters()");
        Check.dueText("class", Modifier.toString(type.getModifiers()), "public final");
    }

    private static String signature(Method m) {
        StringBuilder text = new StringBuilder(m.getReturnType() + " " + m.getName() + "(");
        for (Class<?> p : m.getParameterTypes()) {
            text.append(text.charAt(text.length() - 1) == '(' ? "" : ",").append(p);
        }
        return text.append(')').toString();
    }

    private static void classesInside() {
        Class<?>[] inside = BoardLetters.class.getDeclaredClasses();
        Check.dueTruth("at most twelve classes", inside.length < 12, true);
        fields(BoardLetters.class);
        for (Class<?> c : inside) {
            Check.dueText(c.getName(), Modifier.toString(c.getModifiers()), "private static final");
            fields(c);
        }
    }

    private static void fields(Class<?> c) {
        int fields = 0;
        for (Field f : c.getDeclaredFields()) {
            boolean fixed = Modifier.isStatic(f.getModifiers());
            Check.dueTruth(f + " is static and not final", fixed && !Modifier.isFinal(f.getModifiers()), false);
            fields += fixed ? 0 : 1;
        }
        Check.dueTruth("at most twenty fields in " + c.getName(), fields <= 20, true);
    }

    private static void parameters() {
        List<Class<?>> all = new ArrayList<>(List.of(BoardLetters.class.getDeclaredClasses()));
        all.add(BoardLetters.class);
        for (Class<?> c : all) {
            for (Method m : c.getDeclaredMethods()) {
                Check.dueTruth("at most seven parameters of " + m, m.getParameterCount() <= 7, true);
            }
        }
    }

    private static void headings() throws IOException {
        String text = Files.readString(Path.of("src/main/java/BoardLetters.java"));
        int behind = 0;
        for (String[] heading : HEADINGS) {
            int place = text.indexOf("    // ---- " + heading[0] + "\n", behind);
            int first = text.indexOf(" " + heading[1] + "(", behind);
            int last = text.indexOf(" " + heading[2] + "(", behind);
            Check.dueTruth("heading of " + heading[1], behind <= place && place < first && first < last, true);
            behind = last;
        }
    }

    /** Words that rules 2, 4, 6 and 13 leave out, or that this document does not ask for. */
    private static void source() throws IOException {
        String text = Files.readString(Path.of("src/main/java/BoardLetters.java"));
        for (String word : new String[] {"import ", "package ", "throw ", "try ", "catch", "->", "::", "synchronized",
            "assert", "instanceof", "Exact(", "System.out", "native ", "@", "\t", "protected "}) {
            Check.due("place of '" + word + "'", text.indexOf(word), -1);
        }
        for (int i = 0; i < text.length(); i++) {
            if (text.charAt(i) > 127) {
                Check.due("sign at " + i, text.charAt(i), 127);
            }
        }
    }
}
