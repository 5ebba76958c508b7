import java.io.IOException;
import java.nio.file.Files;
import java.nio.file.Path;
import java.util.List;
import java.util.regex.Matcher;
import java.util.regex.Pattern;

/** Makes a program of the Java that stands in README.md; README.md says how its lines are read. */
final class ReadmeExamples {
    private static final String PROGRAM = "ReadmeProgram";
    /** So many examples stand there at least, so that they are not passed over for the way in which they are written. */
    private static final int LEAST_EXAMPLES = 80;
    private static final Pattern EXAMPLE = Pattern.compile(
            "(\\S.*);\\s+// (-?\\d+(?:\\.\\d+)?|true|false|INVALID|NOT_FOUND|\"(?:[^\"\\\\]|\\\\.)*\")(?:$|[ ,:].*)");

    private final StringBuilder members = new StringBuilder();
    private final StringBuilder lines = new StringBuilder();
    private int examples = 0;
    /** Lines that have a comment, but no answer that could be held against anything. */
    private int strange = 0;

    private ReadmeExamples() {
    }

    /** The path of README.md, and the directory of the program. */
    public static void main(String[] args) throws IOException {
        ReadmeExamples made = new ReadmeExamples();
        made.read(Files.readAllLines(Path.of(args[0])));
        if (made.examples < LEAST_EXAMPLES || made.strange > 0) {
            System.out.println("README.md has " + made.examples + " examples, and " + made.strange + " comments beside them");
            System.exit(1);
        }
        Files.writeString(Path.of(args[1], PROGRAM + ".java"), made.program());
    }

    private void read(List<String> page) {
        boolean inside = false;
        boolean first = false;
        boolean member = false;
        for (String line : page) {
            if (line.startsWith("```")) {
                inside = !inside && line.equals("```java");
                first = inside;
            } else if (inside) {
                member = first ? line.startsWith("static ") : member;
                first = false;
                add(line, member);
            }
        }
    }

    private void add(String line, boolean member) {
        if (member) {
            members.append(line).append('\n');
            return;
        }
        Matcher example = EXAMPLE.matcher(line);
        if (!example.matches()) {
            strange += line.contains("//") ? 1 : 0;
            lines.append(line).append('\n');
            return;
        }
        examples++;
        lines.append(check(example.group(1), example.group(2))).append('\n');
    }

    private static String check(String call, String due) {
        String about = '"' + call.replace("\\", "\\\\").replace("\"", "\\\"") + '"';
        if (due.startsWith("\"")) {
            return "Check.dueText(" + about + ", " + call + ", " + due + ");";
        }
        if (due.equals("true") || due.equals("false")) {
            return "Check.dueTruth(" + about + ", " + call + ", " + due + ");";
        }
        String value = Character.isLetter(due.charAt(0)) ? "BoardLetters." + due : due;
        return "Check.dueReal(" + about + ", " + call + ", " + value + ");";
    }

    private String program() {
        return "final class " + PROGRAM + " {\n" + members + "public static void main(String[] args) {\n" + lines
                + "Check.finish(\"Examples of README.md\");\n}\n}\n";
    }
}
