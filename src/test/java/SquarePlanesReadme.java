import java.io.IOException;
import java.lang.reflect.Method;
import java.lang.reflect.Modifier;
import java.nio.file.DirectoryStream;
import java.nio.file.Files;
import java.nio.file.Path;
import java.util.regex.Matcher;
import java.util.regex.Pattern;

/** What README.md tells of the class: its example's answers, every call, every test. */
public final class SquarePlanesReadme {
    private static final Path PAGE = Path.of("README.md");
    private static final Path TESTS = Path.of("src/test/java");
    private static final Pattern EXAMPLE = Pattern.compile("(?s)```java\n(.*?)```");
    private static final Pattern LINE = Pattern.compile("x\\.(\\w+)\\(([-\\d, ]*)\\);\\s*// (-?\\d+)(:.*)?");
    private static final int FEWEST_LINES = 24;

    private static int wrong = 0;

    private static void tell(String text) {
        wrong++;
        System.out.println(text);
    }

    private static Object[] numbers(String written) {
        if (written.isBlank()) return new Object[0];
        String[] parts = written.split(",");
        Object[] all = new Object[parts.length];
        for (int i = 0; i < all.length; i++) all[i] = Integer.parseInt(parts[i].trim());
        return all;
    }

    private static Method called(String name, int parameters) {
        for (Method m : SquarePlanes.class.getDeclaredMethods()) {
            boolean fits = m.getName().equals(name) && m.getParameterCount() == parameters;
            if (fits && Modifier.isPublic(m.getModifiers())) return m;
        }
        return null;
    }

    private static void replayLine(SquarePlanes x, String line) throws ReflectiveOperationException {
        Matcher parts = LINE.matcher(line);
        if (!parts.matches()) {
            tell("the example has a line that can't be replayed: " + line);
            return;
        }
        Object[] with = numbers(parts.group(2));
        Method m = called(parts.group(1), with.length);
        if (m == null) {
            tell("the example has a call that is not there: " + line);
            return;
        }
        String answered = String.valueOf(m.invoke(x, with));
        if (!answered.equals(parts.group(3))) tell("answered " + answered + ": " + line);
    }

    private static void replayExample(String page) throws ReflectiveOperationException {
        Matcher example = EXAMPLE.matcher(page);
        if (!example.find()) {
            tell("there is no example");
            return;
        }
        SquarePlanes x = null;
        int replayed = 0;
        for (String line : example.group(1).split("\n")) {
            if (line.isBlank()) continue;
            if (line.startsWith("SquarePlanes x = new SquarePlanes();")) {
                x = new SquarePlanes();
            } else {
                replayLine(x, line);
                replayed++;
            }
        }
        if (replayed < FEWEST_LINES) tell("the example has but " + replayed + " lines");
    }

    private static void searchForCalls(String page) {
        for (Method m : SquarePlanes.class.getDeclaredMethods()) {
            if (!Modifier.isPublic(m.getModifiers())) continue;
            Matcher row = Pattern.compile("(?m)^\\| `" + m.getName() + "\\(([^)]*)\\)` \\|").matcher(page);
            if (!row.find()) {
                tell("there is no row for " + m.getName());
                continue;
            }
            int told = row.group(1).isEmpty() ? 0 : row.group(1).split(",").length;
            if (told != m.getParameterCount()) tell(m.getName() + " is told with " + told + " numbers");
        }
    }

    private static void searchForTests(String page) throws IOException {
        try (DirectoryStream<Path> all = Files.newDirectoryStream(TESTS, "*.java")) {
            for (Path test : all) {
                if (!page.contains("- `" + test.getFileName() + "`: ")) tell("not told: " + test);
            }
        }
        if (!page.contains("```sh\n.ci/run\n```")) tell("it is not told how to run the tests");
    }

    public static void main(String[] args) throws IOException, ReflectiveOperationException {
        String page = Files.readString(PAGE);
        replayExample(page);
        searchForCalls(page);
        searchForTests(page);
        System.out.println(wrong == 0 ? "README.md tells what is there" : wrong + " faults in README.md");
        if (wrong != 0) System.exit(1);
    }
}
