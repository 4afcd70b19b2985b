import java.io.IOException;
import java.lang.management.ManagementFactory;
import java.lang.reflect.Field;
import java.lang.reflect.InvocationTargetException;
import java.lang.reflect.Method;
import java.lang.reflect.Modifier;
import java.nio.file.Files;
import java.nio.file.Path;
import java.util.ArrayList;
import java.util.List;
import java.util.Set;
import java.util.TreeSet;
import java.util.regex.Matcher;
import java.util.regex.Pattern;

/** The rules of LANGUAGE.md that can be searched for or counted, and how much room calls take. */
public final class SquarePlanesLanguage {
    private static final Path SOURCE = Path.of("src/main/java/SquarePlanes.java");
    private static final Set<String> LIBRARY = Set.of("Arrays.fill", "Math.abs", "Math.max", "Math.min",
        "Long.MIN_VALUE");
    private static final List<String> FORBIDDEN = List.of("throw", "throws", "try", "catch", "synchronized",
        "assert", "protected", "package", "->", "::", "double", "float", "Object", "equals", "hashCode",
        "toString", "Thread", "System", "static\\s*\\{");
    private static final long MOST_BYTES_OF_AN_OBJECT = 100_000;
    private static final int MOST_CLASSES = 12, MOST_FIELDS = 20, MOST_PARAMETERS = 7, MOST_LINES = 60;
    private static final Set<Class<?>> TYPES_OF_CONSTANTS = Set.of(int.class, long.class, boolean.class, char.class,
        String.class, int[].class, long[].class, char[].class, byte[].class);
    private static final int[] EDGE_NUMBERS = {Integer.MIN_VALUE, Integer.MIN_VALUE + 1, -65536, -256, -10, -9, -2, -1,
        0, 1, 2, 3, 4, 6, 7, 9, 10, 12, 13, 23, 24, 32, 48, 49, 144, 145, 275, 276, 1091, 1092, 65536,
        Integer.MAX_VALUE - 1, Integer.MAX_VALUE};
    private static final int ROUNDS = 200;
    /** Less than one object a round; the measuring itself takes some. */
    private static final long MOST_BYTES_OF_ROUNDS = 16 * ROUNDS - 1;

    private static final Method[] FACE = faceInOrder();
    private static int wrong = 0;

    private static void tell(String text) {
        wrong++;
        System.out.println(text);
    }

    private static void searchForWords(String code) {
        for (String word : FORBIDDEN) {
            boolean isName = Character.isLetter(word.charAt(0)) && !word.contains("\\");
            if (Pattern.compile(isName ? "\\b" + word + "\\b" : word).matcher(code).find()) {
                tell("the program has '" + word + "'");
            }
        }
        Matcher imports = Pattern.compile("import\\s+([\\w.*]+);").matcher(code);
        while (imports.find()) {
            if (!imports.group(1).equals("java.util.Arrays")) tell("the program imports " + imports.group(1));
        }
        Matcher uses = Pattern.compile("\\b[A-Z][A-Za-z]*\\.\\w+").matcher(code.replace("java.util.Arrays", ""));
        while (uses.find()) {
            if (!LIBRARY.contains(uses.group())) tell("the program uses " + uses.group());
        }
    }

    private static void searchForDoubledNames(String code) {
        Set<String> faces = namesBy("^ +public (?:int|long) (\\w+)\\(", code);
        for (String name : namesBy("^ +(?:private )?(?:static )?(?:int|long|boolean|void|[A-Z]\\w+) (\\w+)\\(", code)) {
            if (faces.contains(name)) tell("a method of the program's own is called " + name);
        }
    }

    private static Set<String> namesBy(String pattern, String code) {
        Set<String> names = new TreeSet<>();
        Matcher found = Pattern.compile(pattern, Pattern.MULTILINE).matcher(code);
        while (found.find()) names.add(found.group(1));
        return names;
    }

    private static List<Class<?>> classesOfTheProgram() {
        List<Class<?>> all = new ArrayList<>(List.of(SquarePlanes.class));
        for (int i = 0; i < all.size(); i++) all.addAll(List.of(all.get(i).getDeclaredClasses()));
        return all;
    }

    private static void countMembers() {
        List<Class<?>> all = classesOfTheProgram();
        if (all.size() > MOST_CLASSES) tell("the program has " + all.size() + " classes");
        for (Class<?> c : all) {
            boolean inside = c != SquarePlanes.class;
            int how = c.getModifiers();
            if (inside && !Modifier.isStatic(how)) tell(c + " is not static");
            if (inside && (Modifier.isPublic(how) || Modifier.isProtected(how))) tell(c + " can be seen");
            int fields = 0;
            for (Field f : c.getDeclaredFields()) {
                if (!Modifier.isStatic(f.getModifiers())) fields++;
                else if (!Modifier.isFinal(f.getModifiers())) tell(f + " is static, but not final");
                else if (!TYPES_OF_CONSTANTS.contains(f.getType())) tell(f + " is no constant");
            }
            if (fields > MOST_FIELDS) tell(c + " has " + fields + " fields");
            for (Method m : c.getDeclaredMethods()) {
                if (m.getParameterCount() > MOST_PARAMETERS) tell(m + " has too many parameters");
            }
        }
    }

    /** A method begins and ends at one and the same depth of four or eight blanks. */
    private static void countLines(String code) {
        Matcher methods = Pattern.compile("(?ms)^( {4}| {8})(?! |\\}|[a-z ]*class)[^;={}]*\\([^;={}]*\\) \\{$.*?^\\1\\}$")
            .matcher(code);
        int found = 0;
        while (methods.find()) {
            found++;
            long lines = methods.group().lines().count();
            if (lines > MOST_LINES) tell(lines + " lines: " + methods.group().lines().findFirst().get());
        }
        if (found < 24) tell("only " + found + " methods were found in the program");
    }

    /** Rule 7: whatever the numbers and however many calls went ahead, none throws. */
    private static void callWithEdgeNumbers() {
        long seed = 1;
        for (int run = 0; run < 40; run++) {
            SquarePlanes x = new SquarePlanes();
            for (int call = 0; call < 5000; call++) {
                seed = seed * 6364136223846793005L + 1442695040888963407L;
                Method m = FACE[(int) ((seed >>> 33) % FACE.length)];
                Object[] numbers = new Object[m.getParameterCount()];
                for (int i = 0; i < numbers.length; i++) {
                    seed = seed * 6364136223846793005L + 1442695040888963407L;
                    int at = (int) ((seed >>> 33) % (2 * EDGE_NUMBERS.length));
                    numbers[i] = at < EDGE_NUMBERS.length ? EDGE_NUMBERS[at] : at % 12 - 1;
                }
                callOnce(x, m, numbers);
            }
        }
    }

    private static Method[] faceInOrder() {
        List<Method> all = new ArrayList<>();
        for (Method m : SquarePlanes.class.getDeclaredMethods()) if (Modifier.isPublic(m.getModifiers())) all.add(m);
        all.sort((a, b) -> a.getName().compareTo(b.getName()));
        return all.toArray(new Method[0]);
    }

    private static void callOnce(SquarePlanes x, Method m, Object[] numbers) {
        try {
            m.invoke(x, numbers);
        } catch (InvocationTargetException e) {
            tell(m.getName() + List.of(numbers) + " threw " + e.getCause());
        } catch (IllegalAccessException e) {
            tell(m.getName() + " can't be called");
        }
    }

    private static long allocated() {
        return ((com.sun.management.ThreadMXBean) ManagementFactory.getThreadMXBean())
            .getThreadAllocatedBytes(Thread.currentThread().getId());
    }

    private static long callAll(SquarePlanes x, int i) {
        long sum = x.size(i % 3 + 1) + x.station(i % 24, i % 9 + 1, i % 7 - 3, i % 5 - 2) + x.sign(i % 24, 1);
        sum += x.weigh(i % 24, i % 4 + 1) + x.turn(i % 4) + x.extra(i % 10) + x.ofStation(i % 24, 5);
        sum += x.pole(i, 0) + x.poleOf(1, 1, 0) + x.pair(i, 1) + x.pairOf(0, 1) + x.solution(i, 4);
        sum += x.signAt(i, 1, 2, 3) + x.kept(i) + x.axis(i, 0) + x.apart(i, 0, 0) + x.spread(0) + x.centre();
        sum += x.without(i % 24, 1) + x.turned(i % 24, 1) + x.foretold(1, 2, 3, 1) + x.many(i % 10);
        return i % 5 == 0 ? sum + x.drop(i % 24) : sum;
    }

    /** All calls of a run live in one room: an object makes its rows once, its calls make nothing. */
    private static void measureRoom() {
        long sum = callAll(new SquarePlanes(), 0) + allocated();
        long start = allocated();
        SquarePlanes x = new SquarePlanes();
        for (int i = 0; i < 3; i++) sum += callAll(x, i);
        long made = allocated() - start;
        if (made > MOST_BYTES_OF_AN_OBJECT) tell("an object of all SIZES takes " + made + " bytes");
        start = allocated();
        for (int i = 3; i < 3 + ROUNDS; i++) sum += callAll(x, i);
        long later = allocated() - start;
        if (later > MOST_BYTES_OF_ROUNDS) tell(ROUNDS + " rounds of calls take " + later + " bytes more (" + sum + ")");
    }

    public static void main(String[] args) throws IOException {
        String code = Files.readString(SOURCE).replaceAll("(?s)/\\*.*?\\*/", "").replaceAll("//[^\n]*", "");
        searchForWords(code);
        searchForDoubledNames(code);
        countMembers();
        countLines(code);
        callWithEdgeNumbers();
        measureRoom();
        System.out.println(wrong == 0 ? "the language's rules are kept" : wrong + " rules are broken");
        if (wrong != 0) System.exit(1);
    }
}
