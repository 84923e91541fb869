import java.io.IOException;
import java.nio.file.Files;
import java.nio.file.Path;
import java.util.ArrayList;
import java.util.BitSet;
import java.util.LinkedHashMap;
import java.util.List;
import java.util.Map;
import java.util.regex.Matcher;
import java.util.regex.Pattern;

/** The document by its parts, and which of its words have been quoted. */
final class Document {
    private final Map<String, String> parts = new LinkedHashMap<>();
    private final Map<String, BitSet> quoted = new LinkedHashMap<>();

    Document(Path path) throws IOException {
        String all = Files.readString(path);
        keep("Use", between(all, "\n\nAn object is used for", "\n\n## The public face"));
        keep("Terms", between(all, "\n==== 1 SEATS", "\nAnswers:").replaceAll("==== \\d|```(text)?", " "));
        keep("Answers", between(all, "\nAnswers:", "\nAhead of the calls"));
        Matcher promise = Pattern.compile("(?m)^## (Promise \\d+): .*\\s+`.*`: (.*)$").matcher(all);
        while (promise.find()) keep(promise.group(1), promise.group(2));
    }

    private static String between(String all, String from, String to) {
        int begin = all.indexOf(from);
        int end = begin < 0 ? -1 : all.indexOf(to, begin);
        if (end < 0) throw new IllegalStateException("the document has no part from " + from + " to " + to);
        return all.substring(begin, end);
    }

    private void keep(String name, String words) {
        parts.put(name, oneBlank(words));
        quoted.put(name, new BitSet());
    }

    private static String oneBlank(String words) {
        return words.replaceAll("\\s+", " ").trim();
    }

    int promises() {
        return (int) parts.keySet().stream().filter(name -> name.startsWith("Promise")).count();
    }

    boolean has(String part) {
        return parts.containsKey(part);
    }

    /** Whether these words stand in the part; they count as quoted then. */
    boolean quote(String part, String words) {
        String text = parts.get(part);
        String sought = oneBlank(words);
        int place = text.indexOf(sought);
        boolean found = place >= 0 && !sought.isEmpty();
        while (found && place >= 0) {
            quoted.get(part).set(place, place + sought.length());
            place = text.indexOf(sought, place + 1);
        }
        return found;
    }

    /** What nobody has quoted, but for signs between words. */
    List<String> unquoted() {
        List<String> rests = new ArrayList<>();
        for (Map.Entry<String, String> part : parts.entrySet()) {
            BitSet done = quoted.get(part.getKey());
            String text = part.getValue();
            for (int i = 0; i < text.length(); i++) {
                int end = done.get(i) ? i : Math.min(done.nextSetBit(i) < 0 ? text.length() : done.nextSetBit(i), text.length());
                String rest = text.substring(i, end);
                if (rest.chars().anyMatch(Character::isLetterOrDigit)) rests.add(part.getKey() + ": " + rest.trim());
                i = Math.max(i, end);
            }
        }
        return rests;
    }
}
