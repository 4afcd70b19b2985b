import java.io.IOException;
import java.lang.management.ManagementFactory;
import java.nio.file.Files;
import java.nio.file.Path;
import java.util.List;
import java.util.Set;
import java.util.TreeSet;
import java.util.regex.Matcher;
import java.util.regex.Pattern;

/** The rules of LANGUAGE.md that a text can be searched for, and how much room calls take. */
public final class SquarePlanesLanguage {
    private static final Path SOURCE = Path.of("src/main/java/SquarePlanes.java");
    private static final Set<String> LIBRARY = Set.of("Arrays.fill", "Math.abs", "Math.max", "Math.min",
        "Long.MIN_VALUE");
    private static final List<String> FORBIDDEN = List.of("throw", "throws", "try", "catch", "synchronized",
        "assert", "protected", "package", "->", "::", "double", "float", "Object", "equals", "hashCode",
        "toString", "Thread", "System", "static\\s*\\{");
    private static final long MOST_BYTES_OF_AN_OBJECT = 100_000;
    private static final int ROUNDS = 200;
    /** Less than one object a round; the measuring itself takes some. */
    private static final long MOST_BYTES_OF_ROUNDS = 16 * ROUNDS - 1;

    private static int wrong = 0;

    private static void tell(String text) {
        wrong++;
        System.out.println(text);
    }

    private static void searchForWords(String code) {
        for (String word : FORBIDDEN) {
            boolean isName = Character.isLetter(word.charAt(0)) && !word.contains("\\");
            if (Pattern.compile(isName ? "\\b" + word + "\\b" : word).matcher(code).find()) {
                tell("the program has '" + word + "'");
            }
        }
        Matcher imports = Pattern.compile("import\\s+([\\w.*]+);").matcher(code);
        while (imports.find()) {
            if (!imports.group(1).equals("java.util.Arrays")) tell("the program imports " + imports.group(1));
        }
        Matcher uses = Pattern.compile("\\b[A-Z][A-Za-z]*\\.\\w+").matcher(code.replace("java.util.Arrays", ""));
        while (uses.find()) {
            if (!LIBRARY.contains(uses.group())) tell("the program uses " + uses.group());
        }
    }

    private static void searchForDoubledNames(String code) {
        Set<String> faces = namesBy("^ +public (?:int|long) (\\w+)\\(", code);
        for (String name : namesBy("^ +(?:private )?(?:static )?(?:int|long|boolean|void|[A-Z]\\w+) (\\w+)\\(", code)) {
            if (faces.contains(name)) tell("a method of the program's own is called " + name);
        }
    }

    private static Set<String> namesBy(String pattern, String code) {
        Set<String> names = new TreeSet<>();
        Matcher found = Pattern.compile(pattern, Pattern.MULTILINE).matcher(code);
        while (found.find()) names.add(found.group(1));
        return names;
    }

    private static long allocated() {
        return ((com.sun.management.ThreadMXBean) ManagementFactory.getThreadMXBean())
            .getThreadAllocatedBytes(Thread.currentThread().getId());
    }

    private static long callAll(SquarePlanes x, int i) {
        long sum = x.size(i % 3 + 1) + x.station(i % 24, i % 9 + 1, i % 7 - 3, i % 5 - 2) + x.sign(i % 24, 1);
        sum += x.weigh(i % 24, i % 4 + 1) + x.turn(i % 4) + x.extra(i % 10) + x.ofStation(i % 24, 5);
        sum += x.pole(i, 0) + x.poleOf(1, 1, 0) + x.pair(i, 1) + x.pairOf(0, 1) + x.solution(i, 4);
        sum += x.signAt(i, 1, 2, 3) + x.kept(i) + x.axis(i, 0) + x.apart(i, 0, 0) + x.spread(0) + x.centre();
        sum += x.without(i % 24, 1) + x.turned(i % 24, 1) + x.foretold(1, 2, 3, 1) + x.many(i % 10);
        return i % 5 == 0 ? sum + x.drop(i % 24) : sum;
    }

    /** All calls of a run live in one room: an object makes its rows once, its calls make nothing. */
    private static void measureRoom() {
        long sum = callAll(new SquarePlanes(), 0) + allocated();
        long start = allocated();
        SquarePlanes x = new SquarePlanes();
        for (int i = 0; i < 3; i++) sum += callAll(x, i);
        long made = allocated() - start;
        if (made > MOST_BYTES_OF_AN_OBJECT) tell("an object of all SIZES takes " + made + " bytes");
        start = allocated();
        for (int i = 3; i < 3 + ROUNDS; i++) sum += callAll(x, i);
        long later = allocated() - start;
        if (later > MOST_BYTES_OF_ROUNDS) tell(ROUNDS + " rounds of calls take " + later + " bytes more (" + sum + ")");
    }

    public static void main(String[] args) throws IOException {
        String code = Files.readString(SOURCE).replaceAll("(?s)/\\*.*?\\*/", "").replaceAll("//[^\n]*", "");
        searchForWords(code);
        searchForDoubledNames(code);
        measureRoom();
        System.out.println(wrong == 0 ? "the language's rules are kept" : wrong + " rules are broken");
        if (wrong != 0) System.exit(1);
    }
}
