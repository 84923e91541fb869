/** Texts of houses thrown by dice: most are whole, some have a sign otherwise, some end too early. */
final class HouseTexts {
    private final Dice dice;

    HouseTexts(Dice dice) {
        this.dice = dice;
    }

    String next() {
        StringBuilder text = new StringBuilder();
        int clauses = dice.oneIn(8) ? 9 + dice.below(4) : 1 + dice.below(5);
        for (int c = 0; c < clauses; c++) {
            String clause = clauses > 8 ? shortClause() : clause();
            if (text.length() + clause.length() + 1 > 100) break;
            text.append(c == 0 ? "" : ";").append(clause);
        }
        if (dice.oneIn(4) && text.length() > 0) spoil(text);
        return text.length() > 100 ? text.substring(0, 100) : text.toString();
    }

    private String shortClause() {
        return dice.oneIn(4) ? "like 3 m=" + dice.below(6) : "tie " + dice.below(3);
    }

    private String clause() {
        if (dice.oneIn(7)) return "tie " + number(100);
        return (dice.oneIn(2) ? "like " : "loath ") + number(100) + " " + either(0);
    }

    private String number(int below) {
        int n = dice.below(below);
        return n < 10 && dice.oneIn(5) ? "0" + n : "" + n;
    }

    private String either(int depth) {
        return dice.oneIn(3) ? both(depth) + "|" + either(depth) : both(depth);
    }

    private String both(int depth) {
        return dice.oneIn(3) ? part(depth) + "&" + both(depth) : part(depth);
    }

    private String part(int depth) {
        boolean mayOpen = depth < 4 || dice.oneIn(20);
        if (mayOpen && dice.oneIn(4)) return "!" + part(depth + 1);
        if (mayOpen && dice.oneIn(4)) return "(" + either(depth + 1) + ")";
        int letter = dice.below(6);
        int below = new int[]{7, 7, 7, 6, 60, 4}[letter];
        return "pskmtw".charAt(letter) + "" + "<=>".charAt(dice.below(3)) + number(below);
    }

    private void spoil(StringBuilder text) {
        String signs = "pskmtw<=>()!&|;0123456789 likeoath";
        char sign = dice.oneIn(10) ? (char) dice.below(128) : signs.charAt(dice.below(signs.length()));
        int place = dice.below(text.length());
        int way = dice.below(4);
        if (way == 0) text.setCharAt(place, sign);
        else if (way == 1) text.insert(place, sign);
        else if (way == 2) text.deleteCharAt(place);
        else text.setLength(place);
    }
}
