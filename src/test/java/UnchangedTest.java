import java.util.ArrayList;
import java.util.List;
import java.util.Set;

/**
 * "What is answered so changes nothing; what is asked changes nothing": two objects are told the same, one is asked or
 * refused something besides, and both must answer alike to all that can be looked at, THE IMAGE too.
 */
public final class UnchangedTest {
    private static final Set<Long> REFUSALS = Set.of(-1L, -2L, -3L, -4L, -11L, -12L, -13L, -14L, Long.MIN_VALUE, -1001L);
    private static final String[] SEEN_STATE = {
        "told(0 .. 2)", "told(10 .. 16)", "told(20 .. 26)", "told(30 .. 36)", "of(0 .. 6, 0 .. 2)", "who(0 .. 6)",
        "at(0 .. 5, 0 .. 3)", "like(0 .. 6, 0 .. 1)", "count(0 .. 5)", "stood(0 .. 2)", "looked()"};
    private static final String[] OTHERS = {
        "count(6)", "trace(0 .. 12)", "read(0 .. 5, 0 .. 1)", "read(0 .. 1, 2|59)", "feed(65)", "house()", "told(2)", "undo()"};

    /** A wheel on which a little of all stands, two SEATS free, with an image that is otherwise. */
    private static final String[] SOME = {
        "seats(7)", "seat(6, 0, 3)", "seats(6)", "person(4, 3)", "person(6, 1)", "seat(1, 1, 1)", "seat(0, 2, 1)",
        "matter(40, 7, 0)", "matter(50, 9, -1)", "see(1, 3)", "book(11)", "image()",
        "person(3|5, 2)", "matter(60, 8, 1)", "see(-1, 0)", "see(0, 2)", "see(1, 4)", "book(-1)", "book(10)", "book(2)",
        "seat(3, 0, 2)", "vote(0)", "idle(5)", "tape(0, 0, 60)", "tape(1, 3, 4)", "tape(2, 4, 0)", "item(0, 0 .. 2, 77)",
        "item(1, 3, 9)", "act(0, 2, 5)"};
    /** A wheel on which all is full. */
    private static final String[] FULL = {
        "seats(7)", "seat(0 .. 2, 0, 2)", "person(0 .. 6, 4)", "matter(30, 5, 0 .. 5)", "image()", "idle(3)",
        "see(0 .. 6, 2)", "see(3, 3)", "book(0|1|2|10|11|12|20|21|22|30|31|32)", "tape(0 .. 5, 2, 60)",
        "item(0 .. 5, 1, 8)", "act(6, 2, 1)"};
    private static final String[] LAST_TURN = {"person(1|0, 0)", "matter(50, 3, 0)", "matter(60, 4, -1)", "image()"};

    private static final String[] REFUSED_ALWAYS = {
        "seats(-1|0|1|8|MIN|MAX)", "seat(-1|7|MIN|MAX, 0, 0)", "seat(0, -1|3|MIN|MAX, 0)", "seat(0, 0, -1|4|MIN|MAX)",
        "seat(0, 1|2, -1|2|MIN|MAX)", "person(-1|7|MIN|MAX, 0)", "person(0, -1|10|MIN|MAX)", "of(-1|7|MIN|MAX, 0)",
        "of(0, -1|3|MIN|MAX)", "who(-1|7|MIN|MAX)", "matter(50, 1, -2|7|MIN|MAX)", "matter(0|101|MIN|MAX, 1, -1)",
        "matter(50, -1|100|MIN|MAX, -1)", "at(-1|6|MIN|MAX, 0)", "at(0, -1|4|MIN|MAX)", "feed(-1|128|MIN|MAX)",
        "told(-1|3|9|17|27|37|40|MIN|MAX)", "like(-1|7|MIN|MAX, 0)", "like(0, -1|6|MIN|MAX)", "says(-1|7|MIN|MAX, 0)",
        "says(0, -1|6|MIN|MAX)", "vote(-1|6|MIN|MAX)", "idle(-1|61|MIN|MAX)", "would(-1|6|MIN|MAX, 0)",
        "would(0, -1|61|MIN|MAX)", "soon(-1|6|MIN|MAX)", "order(0, -2|6|MIN|MAX)", "order(64|-1|MIN|MAX, 0)",
        "hold(-1|6|MIN|MAX, 0)", "hold(0, -1|7|MIN|MAX)", "decides(-1|6|MIN|MAX, 0)", "decides(0, -1|7|MIN|MAX)",
        "power(-1|7|MIN|MAX, 0)", "power(0, -1|2|MIN|MAX)", "meet(-1|7|MIN|MAX, 0, 0, 0)", "meet(0, -1|7|MIN|MAX, 0, 0)",
        "meet(0, 1, -1|7|MIN|MAX, 0)", "meet(0, 1, 0, -1|7|MIN|MAX)", "meet(0, 0, 0, 1)", "wheels(1|100|MIN|MAX, 5, 0, 0)",
        "wheels(5, 1|100|MIN|MAX, 0, 0)", "wheels(5, 6, -1|5|MIN|MAX, 0)", "wheels(5, 6, 0, -1|6|MIN|MAX)",
        "up(-1|7|MIN|MAX, 0)", "up(0, -1|6|MIN|MAX)", "bestSeat(-1|6|MIN|MAX)", "see(-2|7|MIN|MAX, 0)",
        "see(0, -1|7|MIN|MAX)", "stood(-1|3|MIN|MAX)", "odds(-1|6|MIN|MAX, 0)", "odds(0, -1|2|MIN|MAX)",
        "mean(-1|6|MIN|MAX, 0)", "mean(0, -1|2|MIN|MAX)", "book(3|9|60|-2|MIN|MAX)", "judge(-1|6|MIN|MAX, 0)",
        "trace(-1|12|20|MIN|MAX)", "taken(0, -1|7|MIN|MAX)", "taken(-1|7|MIN|MAX, 0)", "count(-1|7|MIN|MAX)",
        "tape(-1|6|MIN|MAX, 0, 1)", "tape(0, -2|5|MIN|MAX, 1)", "tape(0, 0, 61|MAX)", "tape(0, 0, -1|MIN)",
        "item(-1|6|MIN|MAX, 0, 1)", "item(0, -1|60|MIN|MAX, 1)", "read(-1|6|MIN|MAX, 0)", "read(0, -1|60|MIN|MAX)",
        "shift(-1|6|MIN|MAX, 0, 0, 1, 1)", "shift(0, 0, -1|6|MIN|MAX, 1, 1)", "shift(0, 0, 0, 1, -1|60|MIN|MAX)",
        "shift(0, -1|60|MIN|MAX, 0, 1, 1)", "shift(0, 0, 0, -1|60|MIN|MAX, 1)"};
    private static final String[] REFUSED_SOME = {
        "seats(2 .. 3)", "seat(6, 0 .. 2, 0)", "vote(0)", "order(1|7, -1)", "order(8|48, 0)", "see(0, 6)", "book(30)",
        "judge(1 .. 2, 0)", "item(3 .. 5, 0, 1)", "item(2, 0, 1)", "shift(0, 0, 1, 0, 1)", "shift(0, 0, 5, 0, 1)",
        "shift(5, 0, 0, 0, 1)", "shift(1, 1, 1, 0, 4)", "taken(0, 2|3|5|6)"};
    private static final String[] REFUSED_FULL = {
        "seats(2 .. 6)", "person(0, 0)", "matter(50, 1, -1)", "house()", "feed(0|127)", "see(0, 0)", "book(0)"};
    private static final String[] REFUSED_AT_LAST = {"vote(0 .. 1)", "idle(1|60)"};

    private static final String[] ASKED = {
        "of(0 .. 1, 0 .. 2)", "who(0 .. 5)", "at(0 .. 1, 0 .. 3)", "told(0 .. 2)", "like(0 .. 1, 0 .. 1)",
        "says(0 .. 1, 0 .. 1)", "would(0 .. 1, 0|1|60)", "soon(0 .. 1)", "order(0, -1)", "hold(0 .. 1, 0 .. 1)",
        "decides(0 .. 1, 0 .. 1)", "power(0 .. 1, 0 .. 1)", "meet(0, 1, 1, 2)", "meet(0, 1, 2, 1)", "wheels(3, 5, 2, 4)",
        "up(0 .. 1, 0 .. 1)", "bestSeat(0 .. 1)", "stood(0 .. 2)", "odds(0 .. 1, 0 .. 1)", "mean(0 .. 1, 0 .. 1)", "looked()",
        "judge(0 .. 5, 0|1)", "trace(0 .. 1)", "taken(0 .. 1, 0 .. 6)", "count(0 .. 6)", "read(0 .. 1, 0 .. 2)"};
    private static final String[] ASKED_SOME = {"order(6, -1 .. 2)", "order(2|4, 0)", "up(0 .. 3, 1)", "bestSeat(1 .. 2)", "odds(1 .. 2, 0)"};
    private static final String[] ASKED_FULL = {"order(63, -1 .. 5)", "up(0 .. 6, 5)", "odds(0 .. 5, 0)", "decides(0 .. 5, 6)", "judge(0, 0)"};

    private final String[] told;
    private final String text;
    private final int houses;
    private final int turn;

    private UnchangedTest(String[] told, int houses, String text, int turn) {
        this.told = told;
        this.houses = houses;
        this.text = text;
        this.turn = turn;
    }

    public static void main(String[] args) {
        Check all = new Check();
        new UnchangedTest(SOME, 2, "tie 3", 0).look(all, new String[][]{REFUSED_ALWAYS, REFUSED_SOME}, new String[][]{ASKED, ASKED_SOME});
        new UnchangedTest(FULL, 6, "like 1 p=0;x" + "=".repeat(88), 0).look(all, new String[][]{REFUSED_ALWAYS, REFUSED_FULL}, new String[][]{ASKED, ASKED_FULL});
        new UnchangedTest(LAST_TURN, 1, "", 9999).look(all, new String[][]{REFUSED_AT_LAST}, new String[][]{ASKED});
        all.end();
    }

    private void look(Check all, String[][] refused, String[][] asked) {
        List<Long> before = observed(wheel());
        for (String[] calls : refused) for (String call : calls) lookBehind(all, call, true, before);
        for (String[] calls : asked) for (String call : calls) lookBehind(all, call, false, before);
    }

    /** A new object that has been told all. */
    private Calls wheel() {
        Calls x = new Calls();
        for (String call : told) x.callAll(call);
        for (int h = 0; h < houses; h++) {
            x.feed("like 3 m=" + h + ";tie " + h);
            x.callAll("house()");
        }
        x.feed(text);
        x.idleTo(turn);
        return x;
    }

    private static List<Long> observed(Calls x) {
        List<Long> answers = new ArrayList<>();
        for (String call : SEEN_STATE) answers.addAll(x.callAll(call));
        for (String call : OTHERS) answers.addAll(x.callAll(call));
        for (String call : SEEN_STATE) answers.addAll(x.callAll(call));
        return answers;
    }

    private void lookBehind(Check all, String call, boolean isRefused, List<Long> before) {
        Calls x = wheel();
        for (long answer : x.callAll(call)) {
            all.holds(call + " is refused, but answers " + answer, !isRefused || REFUSALS.contains(answer));
        }
        all.holds(call + " changes nothing", observed(x).equals(before));
        all.holds("an object is used for 512 calls at most, not " + x.made(), x.made() <= Calls.MOST_CALLS);
    }
}
