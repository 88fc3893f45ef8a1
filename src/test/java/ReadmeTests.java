import java.io.IOException;
import java.lang.reflect.InvocationTargetException;
import java.lang.reflect.Method;
import java.lang.reflect.Modifier;
import java.nio.charset.StandardCharsets;
import java.nio.file.Files;
import java.nio.file.Path;
import java.util.List;
import java.util.Set;
import java.util.TreeSet;
import java.util.regex.Matcher;
import java.util.regex.Pattern;
import java.util.stream.Stream;

/** README.md as it stands: its example answers so, and nothing that it should name lacks. Run from the project's root. */
public final class ReadmeTests {
    private static final Path PAGE = Path.of("README.md");
    private static final String MADE = "RungByHeart x = new RungByHeart();";
    private static final Pattern CALL = Pattern.compile("x\\.(\\w+)\\((.*)\\); +// (-?\\d+)\\b.*");

    private static int wrong = 0;
    private static int rows = 0;

    public static void main(String[] args) throws IOException, ReflectiveOperationException {
        String page = Files.readString(PAGE, StandardCharsets.UTF_8);
        example(page);
        callsNamed(page);
        testsNamed(page);
        System.out.println(wrong == 0 ? rows + " answers are as due" : wrong + " answers are not as due");
        if (wrong != 0) {
            System.exit(1);
        }
    }

    private static void due(String what, long got, long want) {
        rows++;
        if (got != want) {
            wrong++;
            System.out.println("README.md: " + what + " answered " + got + ", due is " + want);
        }
    }

    private static void example(String page) throws ReflectiveOperationException {
        Matcher block = Pattern.compile("(?s)```java\n(.*?)```").matcher(page);
        due("an example, found", block.find() ? 1 : 0, 1);
        RungByHeart x = null;
        for (String line : block.group(1).split("\n")) {
            Matcher call = CALL.matcher(line);
            if (line.equals(MADE)) {
                x = new RungByHeart();
            } else if (call.matches() && x != null) {
                due(line, answer(x, call.group(1), call.group(2)), Long.parseLong(call.group(3)));
            } else {
                due("a line that is no call: " + line, line.isBlank() ? 0 : 1, 0);
            }
        }
    }

    private static long answer(RungByHeart x, String name, String told)
            throws IllegalAccessException, InvocationTargetException {
        String[] numbers = told.isEmpty() ? new String[0] : told.split(", ");
        Method method = Stream.of(RungByHeart.class.getMethods()).filter(m -> m.getName().equals(name)).findFirst().orElseThrow();
        Class<?>[] types = method.getParameterTypes();
        Object[] given = new Object[numbers.length];
        for (int i = 0; i < given.length; i++) {
            int v = numbers[i].startsWith("'") ? numbers[i].charAt(1) : Integer.parseInt(numbers[i]);
            if (types[i] == long.class) {
                given[i] = (long) v;
            } else {
                given[i] = v;
            }
        }
        return ((Number) method.invoke(x, given)).longValue();
    }

    private static void callsNamed(String page) {
        Set<String> calls = new TreeSet<>();
        for (Method m : RungByHeart.class.getDeclaredMethods()) {
            if (Modifier.isPublic(m.getModifiers())) {
                calls.add(m.getName());
            }
        }
        Set<String> named = new TreeSet<>();
        Matcher call = Pattern.compile("`(\\w+)\\(\\)`").matcher(page);
        while (call.find()) {
            named.add(call.group(1));
        }
        due("the calls named, " + named, named.equals(calls) ? 1 : 0, 1);
    }

    private static void testsNamed(String page) throws IOException {
        for (String folder : List.of("src/test/java", "src/test/edges")) {
            try (Stream<Path> files = Files.list(Path.of(folder))) {
                for (Path file : (Iterable<Path>) files::iterator) {
                    String name = file.getFileName().toString().replace(".java", "");
                    due(name + ", named", page.contains("`" + name + "`") ? 1 : 0, 1);
                }
            }
        }
    }
}
