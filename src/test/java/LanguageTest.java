import java.io.IOException;
import java.lang.reflect.Field;
import java.lang.reflect.Method;
import java.lang.reflect.Modifier;
import java.nio.file.Files;
import java.nio.file.Path;
import java.util.Arrays;
import java.util.List;
import java.util.Set;
import java.util.TreeSet;
import java.util.regex.Matcher;
import java.util.regex.Pattern;
import java.util.stream.Collectors;

/** The class's face, and those rules of LANGUAGE.md that can be seen in the source or by looking at the classes. */
public final class LanguageTest {
    private static final Check check = new Check();

    private LanguageTest() { }

    public static void main(String[] args) throws IOException {
        String source = Files.readString(Path.of("src/main/java/SeatOn.java"));
        String code = source.replaceAll("(?s)/\\*.*?\\*/", "").replaceAll("//[^\n]*", "");
        List<Class<?>> classes = Arrays.asList(SeatOn.class.getDeclaredClasses());
        face();
        constants();
        for (Class<?> inside : classes) classInside(inside);
        check.holds("at most twelve classes", classes.size() + 1 <= 12);
        fields(SeatOn.class);
        words(code.replaceAll("\"[^\"]*\"|'[^']*'", "\"\""));
        rooms(code);
        lengths(source);
        check.end();
    }

    private static Set<String> publicMethods() throws IOException {
        String doc = Files.readString(Path.of("../shared/DOC.md"));
        Set<String> heads = new TreeSet<>();
        Matcher head = Pattern.compile("(?m)^    public (int|long) (\\w+)\\((.*)\\);$").matcher(doc);
        while (head.find()) heads.add(head.group(1) + " " + head.group(2) + "(" + types(head.group(3)) + ")");
        return heads;
    }

    private static String types(String parameters) {
        return Arrays.stream(parameters.split(", ")).map(p -> p.split(" ")[0]).collect(Collectors.joining(","));
    }

    private static String head(Method m) {
        return m.getReturnType() + " " + m.getName() + "("
            + Arrays.stream(m.getParameterTypes()).map(Class::getName).collect(Collectors.joining(",")) + ")";
    }

    /** Rule 1. */
    private static void face() throws IOException {
        Set<String> due = publicMethods();
        Set<String> are = new TreeSet<>();
        Set<String> names = new TreeSet<>();
        for (Method m : SeatOn.class.getDeclaredMethods()) {
            if (Modifier.isPublic(m.getModifiers())) {
                are.add(head(m));
                names.add(m.getName());
            }
        }
        check.holds("the document has 41 methods", due.size() == 41);
        check.holds("the public methods are the document's", due.equals(are));
        for (Method m : SeatOn.class.getDeclaredMethods()) {
            boolean isPublic = Modifier.isPublic(m.getModifiers());
            boolean isHidden = Modifier.isPrivate(m.getModifiers()) && !names.contains(m.getName());
            check.holds(m + " is public, or private with a name of its own", isPublic || isHidden);
        }
        for (Class<?> inside : SeatOn.class.getDeclaredClasses()) {
            for (Method m : inside.getDeclaredMethods()) check.holds(m + " has a name of its own", !names.contains(m.getName()));
        }
        check.holds("the class is public and final", SeatOn.class.getModifiers() == (Modifier.PUBLIC | Modifier.FINAL));
        check.holds("there is one constructor", SeatOn.class.getConstructors().length == 1
            && SeatOn.class.getDeclaredConstructors().length == 1);
    }

    private static void constants() {
        check.due("NONE", SeatOn.NONE, -1);
        check.due("BAD", SeatOn.BAD, -2);
        check.due("STATE", SeatOn.STATE, -3);
        check.due("FULL", SeatOn.FULL, -4);
        check.due("NO", SeatOn.NO, Long.MIN_VALUE);
        List<String> open = List.of("NONE", "BAD", "STATE", "FULL", "NO");
        for (Field f : SeatOn.class.getDeclaredFields()) {
            check.holds(f + " is private, or the document's", Modifier.isPrivate(f.getModifiers()) != open.contains(f.getName()));
        }
    }

    /** Rules 1, 2 and 11. */
    private static void classInside(Class<?> inside) {
        int modifiers = inside.getModifiers();
        check.holds(inside + " is static", Modifier.isStatic(modifiers));
        check.holds(inside + " is not open", !Modifier.isPublic(modifiers) && !Modifier.isProtected(modifiers));
        check.holds(inside + " has none inside", inside.getDeclaredClasses().length == 0);
        fields(inside);
    }

    /** Rules 5 and 11. */
    private static void fields(Class<?> c) {
        int own = 0;
        for (Field f : c.getDeclaredFields()) {
            if (!Modifier.isStatic(f.getModifiers())) own++;
            else check.holds(f + " is final", Modifier.isFinal(f.getModifiers()));
        }
        check.holds(c + " has some twenty fields", own <= 20);
        for (Method m : c.getDeclaredMethods()) check.holds(m + " takes seven at most", m.getParameterCount() <= 7);
    }

    /** Rules 2, 4, 6, 9 and 13, by words that the code may not have at all. */
    private static void words(String code) {
        for (String word : List.of("throw", "throws", "try", "catch", "synchronized", "assert", "import", "package",
                "while", "enhanced", "equals", "hashCode", "toString", "transient", "volatile", "native", "strictfp",
                "double", "float", "var", "yield")) {
            check.holds("no " + word, !Pattern.compile("\\b" + word + "\\b").matcher(code).find());
        }
        for (String sign : List.of("->", "::", "@", "static {", "Exact(")) check.holds("no " + sign, !code.contains(sign));
        Matcher library = Pattern.compile("\\b(Integer|Long|Math|System|Arrays)\\.(\\w+)").matcher(code);
        Set<String> used = Set.of("Integer.bitCount", "Math.max", "System.arraycopy", "Long.MIN_VALUE");
        while (library.find()) check.holds(library.group() + " is of the library", used.contains(library.group()));
        check.holds("signs are 1 to 127", code.chars().allMatch(c -> c > 0 && c < 128));
    }

    /** Rule 12: all rows are made with an object's fields, but for the next HOUSE. */
    private static void rooms(String code) {
        Pattern field = Pattern.compile("^ +(private )?(final )?\\S+ \\w+ = new [^;]+;$");
        int others = 0;
        for (String line : code.split("\n")) {
            if (!line.contains("new ") || field.matcher(line).matches()) continue;
            others++;
            check.holds("made while it runs: " + line, line.trim().equals("spare = new House();"));
        }
        check.due("places that make something while it runs", others, 1);
    }

    /** Rule 11: a method's lines stand between its head and the brace below its first letter. */
    private static void lengths(String source) {
        String[] lines = source.split("\n");
        for (int i = 0; i < lines.length; i++) {
            if (!lines[i].matches(" +[\\w\\[\\] ]+\\(.*\\) \\{") || lines[i].matches(" +(if|for|switch|else).*")) continue;
            String end = " ".repeat(lines[i].indexOf(lines[i].trim())) + "}";
            int length = 1;
            for (int j = i + 1; j < lines.length && !lines[j].equals(end); j++) length++;
            check.holds("short: " + lines[i].trim(), length <= 60);
        }
    }
}
