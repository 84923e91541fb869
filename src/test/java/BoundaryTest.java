import java.io.IOException;
import java.nio.file.Files;
import java.nio.file.Path;
import java.util.ArrayList;
import java.util.List;
import java.util.stream.Collectors;
import java.util.stream.Stream;

/**
 * Runs the files of src/test/bounds (README.md tells how they are written): words of the document, each with calls of
 * its own that would answer otherwise if those words were broken. All words of the document must be quoted there.
 */
public final class BoundaryTest {
    private final Check check = new Check();
    private final Document document = new Document(Path.of("../shared/DOC.md"));
    private Calls x = new Calls();
    private String part = "";
    private String where = "";
    /** Where the words stand whose answers are looked at, or nothing between two parts. */
    private String caseAt = "";
    private boolean quoting = false;
    private int dues = 0;

    private BoundaryTest() throws IOException { }

    public static void main(String[] args) throws IOException {
        BoundaryTest test = new BoundaryTest();
        test.check.due("promises in the document", test.document.promises(), 42);
        try (Stream<Path> files = Files.list(Path.of("src/test/bounds"))) {
            for (Path file : files.sorted().collect(Collectors.toList())) test.run(file);
        }
        for (String rest : test.document.unquoted()) test.check.holds("quoted: " + rest, false);
        test.check.end();
    }

    private void run(Path file) throws IOException {
        List<String> lines = Files.readAllLines(file);
        for (int i = 0; i < lines.size(); i++) {
            String line = lines.get(i).trim();
            where = file.getFileName() + ":" + (i + 1) + ": ";
            if (line.isEmpty() || line.startsWith("//")) continue;
            if (line.startsWith("# ")) beginPart(line.substring(2));
            else if (line.startsWith("> ")) quote(line.substring(2));
            else step(line);
        }
        endCase();
    }

    private void beginPart(String name) {
        endCase();
        part = name;
        check.holds(where + "the document has a part " + name, document.has(name));
    }

    private void quote(String words) {
        if (!quoting) endCase();
        quoting = true;
        caseAt = where;
        check.holds(where + part + " says: " + words, document.has(part) && document.quote(part, words));
    }

    private void endCase() {
        check.holds(caseAt + "these words have answers of their own", caseAt.isEmpty() || dues > 0);
        beginObject();
        caseAt = "";
        quoting = false;
        dues = 0;
    }

    private void beginObject() {
        check.holds(where + "an object is used for 512 calls at most", x.made() <= Calls.MOST_CALLS);
        x = new Calls();
    }

    private void step(String line) {
        check.holds(where + "calls stand below words of the document", !caseAt.isEmpty());
        quoting = false;
        int arrow = line.lastIndexOf(" -> ");
        String told = arrow < 0 ? line : line.substring(0, arrow).trim();
        if (told.equals("new")) {
            beginObject();
        } else if (told.startsWith("idle to ")) {
            x.idleTo(Calls.number(told.substring(8)));
        } else {
            List<Long> got = answers(told);
            if (arrow >= 0) due(told, got, line.substring(arrow + 4).trim().split(" +"));
        }
    }

    private List<Long> answers(String told) {
        int times = told.indexOf(" times ");
        if (times > 0) {
            List<Long> got = new ArrayList<>();
            for (long i = Calls.number(told.substring(0, times)); i > 0; i--) got.addAll(x.callAll(told.substring(times + 7)));
            return got;
        }
        if (told.startsWith("text \"")) return List.of((long) x.feed(inQuotes(told)));
        if (!told.startsWith("house \"")) return x.callAll(told);
        x.feed(inQuotes(told));
        return x.callAll("house()");
    }

    private static String inQuotes(String told) {
        return told.substring(told.indexOf('"') + 1, told.lastIndexOf('"'));
    }

    private void due(String told, List<Long> got, String[] want) {
        dues++;
        check.holds(where + "one answer, or one for each call", want.length == 1 || want.length == got.size());
        for (int i = 0; i < got.size(); i++) {
            String wanted = want[Math.min(i, want.length - 1)];
            check.due(where + told + (got.size() > 1 ? " (" + i + ")" : ""), got.get(i), Calls.number(wanted));
        }
    }
}
