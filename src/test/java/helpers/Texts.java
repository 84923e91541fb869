import java.util.ArrayDeque;
import java.util.Deque;

/** Texts of houses, looked at sign by sign with what is open kept aside; for the Model. */
final class Texts {
    private static final String[] WORDS = {"like ", "loath ", "tie "};

    /** What a beginning is: no HOUSE begins so; one could, but this is none yet; it is one. */
    private enum Start { NEVER, NOT_YET, WHOLE }

    private Texts() { }

    static int fault(String text) {
        for (int end = 1; end <= text.length(); end++) {
            if (start(text.substring(0, end)) == Start.NEVER) return end - 1;
        }
        return start(text) == Start.WHOLE ? -1 : text.length();
    }

    private static Start start(String text) {
        String[] clauses = text.split(";", -1);
        if (clauses.length > 10) return Start.NEVER;
        for (int i = 0; i < clauses.length - 1; i++) {
            if (startOfClause(clauses[i]) != Start.WHOLE) return Start.NEVER;
        }
        return startOfClause(clauses[clauses.length - 1]);
    }

    private static Start startOfClause(String clause) {
        for (String word : WORDS) {
            if (word.startsWith(clause)) return Start.NOT_YET;
            if (!clause.startsWith(word)) continue;
            String rest = clause.substring(word.length());
            if (rest.isEmpty()) return Start.NOT_YET;
            boolean isTie = word.equals("tie ");
            if (rest.matches("[0-9]{1,2}")) return isTie ? Start.WHOLE : Start.NOT_YET;
            if (isTie || !rest.matches("(?s)[0-9]{1,2} .*")) return Start.NEVER;
            return startOfWish(rest.substring(rest.indexOf(' ') + 1));
        }
        return Start.NEVER;
    }

    private static Start startOfWish(String e) {
        Deque<Character> open = new ArrayDeque<>();
        boolean wantsPart = true;
        int i = 0;
        while (i < e.length()) {
            char c = e.charAt(i);
            if (wantsPart && (c == '(' || c == '!')) {
                if (open.size() == 4) return Start.NEVER;
                open.push(c);
                i++;
            } else if (wantsPart) {
                String test = e.substring(i, Math.min(i + 3, e.length()));
                if (!"pskmtw".contains(test.substring(0, 1))) return Start.NEVER;
                if (test.length() > 1 && !"<=>".contains(test.substring(1, 2))) return Start.NEVER;
                if (test.length() < 3) return Start.NOT_YET;
                if (!Character.isDigit(test.charAt(2))) return Start.NEVER;
                i += 3;
                if (i < e.length() && Character.isDigit(e.charAt(i))) i++;
                wantsPart = false;
                while (!open.isEmpty() && open.peek() == '!') open.pop();
            } else if (c == '&' || c == '|') {
                wantsPart = true;
                i++;
            } else if (c == ')' && !open.isEmpty()) {
                open.pop();
                while (!open.isEmpty() && open.peek() == '!') open.pop();
                i++;
            } else {
                return Start.NEVER;
            }
        }
        return wantsPart || !open.isEmpty() ? Start.NOT_YET : Start.WHOLE;
    }

    /** Where the last sign outside of all brackets stands, -1 if nowhere. */
    private static int lastOutside(String e, char sign) {
        int depth = 0;
        for (int i = e.length() - 1; i >= 0; i--) {
            if (e.charAt(i) == ')') depth++;
            if (e.charAt(i) == '(') depth--;
            if (depth == 0 && e.charAt(i) == sign) return i;
        }
        return -1;
    }

    static boolean isTrue(String e, Model.Voice p, int m) {
        int or = lastOutside(e, '|');
        if (or >= 0) return isTrue(e.substring(0, or), p, m) || isTrue(e.substring(or + 1), p, m);
        int and = lastOutside(e, '&');
        if (and >= 0) return isTrue(e.substring(0, and), p, m) && isTrue(e.substring(and + 1), p, m);
        if (e.charAt(0) == '!') return !isTrue(e.substring(1), p, m);
        if (e.charAt(0) == '(') return isTrue(e.substring(1, e.length() - 1), p, m);
        int number = Integer.parseInt(e.substring(2));
        int fact = switch (e.charAt(0)) {
            case 'p' -> p.i;
            case 's' -> p.seat();
            case 'k' -> p.kind();
            case 'm' -> m;
            case 't' -> p.world.turn % 60;
            default -> p.votes();
        };
        return switch (e.charAt(1)) {
            case '<' -> fact < number;
            case '=' -> fact == number;
            default -> fact > number;
        };
    }
}
