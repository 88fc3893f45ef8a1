import java.lang.reflect.Field;
import java.lang.reflect.Method;
import java.lang.reflect.Modifier;
import java.nio.charset.StandardCharsets;
import java.nio.file.Files;
import java.nio.file.Path;
import java.util.Arrays;
import java.util.Set;
import java.util.TreeSet;
import java.util.regex.Matcher;
import java.util.regex.Pattern;

/** The face of the class, and what of ../shared/LANGUAGE.md can be seen from its text. Run from the project's root. */
public final class FormTests {
    private static final Path SOURCE = Path.of("src/main/java/RungByHeart.java");
    private static final String[] FACE = {
        "int act(int, int, int)", "int alike(int, int)", "int asTold(int)", "int back()", "int body(int)", "int byWhom(int)",
        "int changesIt(int, int)", "int church(int, int, int)", "int count(int)", "int day()", "int deaf(int)",
        "int does(int, int)", "int drawn(int, int, int)", "int ends()", "int farm(int, int)", "int farms(int, int, int)",
        "int feed(int)", "int howFar(int, int)", "int image()", "int judge(int, int)", "int keep(int, int)",
        "int kinds(int, int)", "int late(int, int, int)", "int law()", "int led(int)", "int mend(int, int, int)",
        "int of(int, int)", "int often(int, int, int)", "int pass()", "int put(int, int, long)", "int redo()",
        "int round(int)", "int row(int, int, int)", "int rung(int)", "int send(int, int)",
        "int shift(int, int, int, int, int)", "int signs(int, int)", "int spare(int)", "int taken(int, int)",
        "int tell(int, int)", "int trace(int)", "int undo()", "int which(int)", "long element(int, int)"};

    private static int wrong = 0;

    private static void due(String what, boolean so) {
        if (!so) {
            wrong++;
            System.out.println(what);
        }
    }

    public static void main(String[] args) throws java.io.IOException {
        String source = Files.readString(SOURCE, StandardCharsets.US_ASCII);
        String bare = source.replaceAll("(?s)/\\*.*?\\*/", "").replaceAll("//[^\n]*", "");
        face();
        words(bare);
        classes();
        methods(bare);
        roomIsMadeOnce(bare);
        System.out.println(wrong == 0 ? "the form is kept" : wrong + " rules are broken");
        if (wrong != 0) {
            System.exit(1);
        }
    }

    private static void face() {
        Set<String> seen = new TreeSet<>();
        for (Method m : RungByHeart.class.getDeclaredMethods()) {
            if (!Modifier.isPrivate(m.getModifiers()) && !m.isSynthetic()) {
                due(m + " is public and no more", m.getModifiers() == Modifier.PUBLIC);
                String told = Arrays.toString(m.getParameterTypes());
                seen.add(m.getReturnType() + " " + m.getName() + "(" + told.substring(1, told.length() - 1) + ")");
            }
        }
        due("the face: " + seen, seen.equals(new TreeSet<>(Arrays.asList(FACE))));
        Set<String> constants = new TreeSet<>();
        for (Field f : RungByHeart.class.getDeclaredFields()) {
            if (!Modifier.isPrivate(f.getModifiers())) {
                due(f + " is a constant", f.getModifiers() == (Modifier.PUBLIC | Modifier.STATIC | Modifier.FINAL));
                constants.add(f.getName());
            }
        }
        due("the constants: " + constants, constants.equals(Set.of("BAD", "NOT", "FULL", "STATE", "VOID")));
        due("public and final", RungByHeart.class.getModifiers() == (Modifier.PUBLIC | Modifier.FINAL));
        due("one constructor", RungByHeart.class.getDeclaredConstructors().length == 1
            && RungByHeart.class.getDeclaredConstructors()[0].getModifiers() == Modifier.PUBLIC);
    }

    private static void words(String bare) {
        String[] none = {"throw", "try", "catch", "throws", "synchronized", "assert", "import", "package", "Object", "System.out",
            "Random", "hashCode", "toString", "Exact", "protected", "volatile", "native", "this.getClass", "Thread"};
        for (String word : none) {
            due("the word " + word, !Pattern.compile("\\b" + Pattern.quote(word) + "\\b").matcher(bare).find());
        }
        due("no lambda, no method reference", !bare.contains("->") && !bare.contains("::"));
    }

    private static void classes() {
        Class<?>[] inside = RungByHeart.class.getDeclaredClasses();
        due("at most twelve classes", inside.length + 1 <= 12);
        for (Class<?> c : inside) {
            due(c + " is static, not public", Modifier.isStatic(c.getModifiers()) && !Modifier.isPublic(c.getModifiers()));
            fields(c);
        }
        fields(RungByHeart.class);
    }

    private static void fields(Class<?> c) {
        int own = 0;
        for (Field f : c.getDeclaredFields()) {
            if (Modifier.isStatic(f.getModifiers())) {
                due(f + " is final", Modifier.isFinal(f.getModifiers()));
            } else {
                own++;
            }
        }
        due(c + " has some twenty fields", own <= 20);
    }

    private static void methods(String bare) {
        Set<String> names = new TreeSet<>();
        for (Method m : RungByHeart.class.getMethods()) {
            names.add(m.getName());
        }
        for (Class<?> c : RungByHeart.class.getDeclaredClasses()) {
            for (Method m : c.getDeclaredMethods()) {
                due(m + " bears a public name", !names.contains(m.getName()));
                due(m + " has too many parameters", m.getParameterCount() <= 7);
            }
        }
        for (Method m : RungByHeart.class.getDeclaredMethods()) {
            due(m + " bears a public name", !Modifier.isPrivate(m.getModifiers()) || !names.contains(m.getName()));
            due(m + " has too many parameters", m.getParameterCount() <= 7);
        }
        String[] lines = bare.split("\n");
        int from = -1;
        for (int i = 0; i < lines.length; i++) {
            Matcher head = Pattern.compile("^( {4}| {8})[a-zA-Z].*\\) \\{$").matcher(lines[i]);
            from = head.matches() ? i : from;
            if (from >= 0 && lines[i].matches("^( {4}| {8})}$")) {
                due("long: " + lines[from], i - from <= 60);
                from = -1;
            }
        }
    }

    /** No call makes an object: each new stands in a field's line or in the constructor. */
    private static void roomIsMadeOnce(String bare) {
        for (String line : bare.split("\n")) {
            boolean makes = Pattern.compile("\\bnew\\b").matcher(line).find();
            boolean once = line.matches("^ +private final .*= new .*;$") || line.strip().equals("shelves[i] = new Shelf();");
            due("made in a call: " + line, !makes || once);
        }
    }
}
