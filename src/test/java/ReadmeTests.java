import java.io.IOException;
import java.lang.reflect.Method;
import java.lang.reflect.Modifier;
import java.nio.file.Files;
import java.nio.file.Path;
import java.util.List;
import java.util.stream.Collectors;
import java.util.stream.Stream;

/** That README.md names each call of the face and each test; ReadmeExamples sees to its examples. */
final class ReadmeTests {
    public static void main(String[] args) throws IOException {
        String page = Files.readString(Path.of("README.md"));
        for (Method m : BoardLetters.class.getDeclaredMethods()) {
            if (Modifier.isPublic(m.getModifiers())) {
                Check.dueTruth("README.md names " + m.getName(), page.contains("`" + m.getName() + "()`"), true);
            }
        }
        for (String test : tests()) {
            Check.dueTruth("README.md names " + test, page.contains("| `" + test + "` |"), true);
        }
        Check.finish("ReadmeTests");
    }

    private static List<String> tests() throws IOException {
        try (Stream<Path> files = Files.list(Path.of("src/test/java"))) {
            return files.map(file -> file.getFileName().toString()).filter(name -> name.endsWith("Tests.java"))
                    .map(name -> name.replace(".java", "")).collect(Collectors.toList());
        }
    }
}
