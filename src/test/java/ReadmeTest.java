import java.io.IOException;
import java.lang.reflect.Method;
import java.lang.reflect.Modifier;
import java.nio.file.Files;
import java.nio.file.Path;
import java.util.Arrays;
import java.util.HashMap;
import java.util.Map;
import java.util.Set;
import java.util.TreeSet;
import java.util.regex.Matcher;
import java.util.regex.Pattern;

/** The examples of README.md answer as their comments say, and its list has each call as the document writes it. */
public final class ReadmeTest {
    private static final Pattern CALL = Pattern.compile("(?:int (\\w+) = )?x\\.(\\w+)\\((.*)\\); +// (-?\\d+)(?:: .*)?");
    private static final Pattern FEEDING = Pattern.compile("for \\(char c : \"(.*)\"\\.toCharArray\\(\\)\\) x\\.feed\\(c\\);");
    private static final String NEW = "SeatOn x = new SeatOn();";

    private final Check check = new Check();
    private final Map<String, String> names = new HashMap<>();
    private Calls x = null;

    private ReadmeTest() { }

    public static void main(String[] args) throws IOException {
        ReadmeTest test = new ReadmeTest();
        String readme = Files.readString(Path.of("README.md"));
        test.examples(readme);
        test.list(readme);
        test.check.end();
    }

    private void examples(String readme) {
        Matcher block = Pattern.compile("(?s)```java\n(.*?)```").matcher(readme);
        int blocks = 0;
        for (; block.find(); blocks++) {
            for (String line : block.group(1).split("\n")) {
                if (!line.isBlank()) example(line.trim());
            }
        }
        check.holds("README.md has examples", blocks > 0);
    }

    private void example(String line) {
        if (line.equals(NEW)) {
            x = new Calls();
            return;
        }
        check.holds("an object stands above: " + line, x != null);
        if (x == null) return;
        Matcher feeding = FEEDING.matcher(line);
        Matcher call = CALL.matcher(line);
        if (feeding.matches()) check.due(line, x.feed(feeding.group(1)), feeding.group(1).length());
        else if (call.matches()) due(line, call);
        else check.holds("an example that can be run: " + line, false);
    }

    private void due(String line, Matcher call) {
        String[] given = call.group(3).isEmpty() ? new String[0] : call.group(3).split(", ");
        String numbers = String.join(", ", Arrays.stream(given).map(g -> names.getOrDefault(g, g)).toList());
        long got = x.callAll(call.group(2) + "(" + numbers + ")").get(0);
        if (call.group(1) != null) names.put(call.group(1), "" + got);
        check.due(line, got, Long.parseLong(call.group(4)));
    }

    private void list(String readme) throws IOException {
        String document = Files.readString(Path.of("../shared/DOC.md"));
        Set<String> due = new TreeSet<>();
        Matcher head = Pattern.compile("(?m)^    public \\w+ (\\w+)\\((.*)\\);$").matcher(document);
        while (head.find()) due.add(head.group(1) + "(" + head.group(2).replaceAll("\\w+ (\\w+)", "$1") + ")");
        Set<String> listed = new TreeSet<>();
        Matcher row = Pattern.compile("(?m)^\\| (`.*`) \\|").matcher(readme);
        while (row.find()) listed.addAll(Arrays.asList(row.group(1).replaceAll("^`|`$", "").split("` `")));
        check.holds("README.md lists " + listed + ", due are " + due, listed.equals(due) && !due.isEmpty());
        for (Method m : SeatOn.class.getDeclaredMethods()) {
            boolean stands = listed.stream().anyMatch(call -> call.startsWith(m.getName() + "("));
            check.holds("README.md lists " + m.getName(), stands || !Modifier.isPublic(m.getModifiers()));
        }
    }
}
