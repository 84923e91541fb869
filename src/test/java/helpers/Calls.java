import java.lang.reflect.InvocationTargetException;
import java.lang.reflect.Method;
import java.util.ArrayList;
import java.util.List;
import java.util.Map;

/** Calls of one SeatOn that are told as texts, as "who(0 .. 4)" or "seat(0|1, 2, 1)"; each object is used 512 times at most. */
final class Calls {
    static final int MOST_CALLS = 512;
    private static final Map<String, Long> NAMES = Map.ofEntries(
        Map.entry("NONE", -1L), Map.entry("BAD", -2L), Map.entry("STATE", -3L), Map.entry("FULL", -4L),
        Map.entry("NOTHING", -11L), Map.entry("CAST", -12L), Map.entry("PLACE", -13L), Map.entry("SIZE", -14L),
        Map.entry("NO", Long.MIN_VALUE), Map.entry("MIN", (long) Integer.MIN_VALUE), Map.entry("MAX", (long) Integer.MAX_VALUE),
        Map.entry("LMIN", Long.MIN_VALUE), Map.entry("LMAX", Long.MAX_VALUE));

    private final SeatOn x = new SeatOn();
    private int made = 0;

    static long number(String text) {
        Long named = NAMES.get(text);
        return named != null ? named : Long.parseLong(text);
    }

    int made() {
        return made;
    }

    /** One call with numbers alone. */
    long call(String name, long... numbers) {
        made++;
        for (Method m : SeatOn.class.getDeclaredMethods()) {
            if (!m.getName().equals(name) || m.getParameterCount() != numbers.length) continue;
            Object[] given = new Object[numbers.length];
            for (int i = 0; i < given.length; i++) {
                given[i] = m.getParameterTypes()[i] == int.class ? (Object) Math.toIntExact(numbers[i]) : (Object) numbers[i];
            }
            try {
                return ((Number) m.invoke(x, given)).longValue();
            } catch (IllegalAccessException | InvocationTargetException e) {
                throw new IllegalStateException(name + " could not be called, or threw", e);
            }
        }
        throw new IllegalStateException("no such call: " + name + " of " + numbers.length);
    }

    /** The answers of all calls that the text tells, the last number running fastest. */
    List<Long> callAll(String text) {
        int open = text.indexOf('(');
        if (open < 0 || !text.endsWith(")")) throw new IllegalStateException("no call: " + text);
        String inside = text.substring(open + 1, text.length() - 1).trim();
        String[] parts = inside.isEmpty() ? new String[0] : inside.split(",");
        List<Long> answers = new ArrayList<>();
        callEach(text.substring(0, open), parts, 0, new long[parts.length], answers);
        return answers;
    }

    private void callEach(String name, String[] parts, int i, long[] numbers, List<Long> answers) {
        if (i == parts.length) {
            answers.add(call(name, numbers));
            return;
        }
        for (long number : numbersOf(parts[i].trim())) {
            numbers[i] = number;
            callEach(name, parts, i + 1, numbers, answers);
        }
    }

    private static List<Long> numbersOf(String part) {
        List<Long> numbers = new ArrayList<>();
        for (String one : part.split("\\|")) {
            String[] ends = one.trim().split(" \\.\\. ");
            long first = number(ends[0]);
            long last = number(ends[ends.length - 1]);
            for (int i = 0; i <= last - first; i++) numbers.add(first + i);
        }
        return numbers;
    }

    /** All signs of a text come; how many of them were taken. */
    int feed(String text) {
        int taken = 0;
        for (int i = 0; i < text.length(); i++) {
            if (call("feed", text.charAt(i)) > 0) taken++;
        }
        return taken;
    }

    /** Idle VOTES, so many that one call could not tell them. */
    void idleTo(long turn) {
        for (long left = turn - call("told", 1); left > 0; left -= 60) call("idle", Math.min(left, 60));
    }
}
