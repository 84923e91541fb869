/** Thrown calls on SeatOn and on the Model must answer alike. */
public final class ModelTest {
    /** The longest step is a house of a hundred signs. */
    private static final int RUNS = 3000, STEPS = 400, LONGEST_STEP = 101;

    private final Check check;
    private final int run;
    private final Dice dice;
    private final HouseTexts texts;
    private final SeatOn x = new SeatOn();
    private final Model m = new Model();
    /** What part of the calls tells something, of a hundred: few in runs that ask much of a full wheel. */
    private final int telling;
    private int calls = 0;

    private ModelTest(Check check, int run) {
        this.check = check;
        this.run = run;
        dice = new Dice(run);
        texts = new HouseTexts(dice);
        telling = 10 + 10 * dice.below(5);
    }

    public static void main(String[] args) {
        Check check = new Check();
        for (int run = 0; run < RUNS && check.wrong() < 10; run++) new ModelTest(check, run).go();
        check.end();
    }

    private void go() {
        begin();
        for (int i = 0; i < STEPS && calls + LONGEST_STEP <= Calls.MOST_CALLS && check.wrong() < 10; i++) {
            if (dice.below(100) < telling) tell();
            else if (dice.oneIn(3)) tapes();
            else if (dice.oneIn(2)) askOfVotes();
            else askOfOthers();
        }
    }

    private void due(String call, long got, long want) {
        calls++;
        check.due("run " + run + ": " + call, got, want);
    }

    private void begin() {
        if (dice.oneIn(6)) return;
        int n = 2 + dice.below(6);
        due("seats", x.seats(n), m.seats(n));
        int people = dice.below(n + 1);
        for (int p = 0; p < people; p++) person(dice.below(7), dice.below(10));
        int matters = dice.below(7);
        for (int i = 0; i < matters; i++) matter(1 + dice.below(100), dice.below(100), dice.below(people + 1) - 1);
        if (!dice.oneIn(5)) house();
        if (dice.oneIn(4)) for (int i = 0; i < 170; i++) due("idle(60)", x.idle(60), m.idle(60));
    }

    private void person(int kind, int v) {
        due("person(" + kind + "," + v + ")", x.person(kind, v), m.person(kind, v));
    }

    private void matter(int asks, int worth, int by) {
        due("matter(" + asks + "," + worth + "," + by + ")", x.matter(asks, worth, by), m.matter(asks, worth, by));
    }

    private void house() {
        String text = texts.next();
        for (int i = 0; i < text.length(); i++) {
            int sign = text.charAt(i);
            due("feed(" + sign + ")", x.feed(sign), m.feed(sign));
        }
        due("house() of " + text, x.house(), m.house());
    }

    private void tell() {
        int a = dice.around(0, 6);
        int b = dice.around(0, 6);
        int c = dice.around(0, 2);
        switch (dice.below(20)) {
            case 0 -> { int n = dice.around(2, 7); due("seats(" + n + ")", x.seats(n), m.seats(n)); }
            case 1, 2, 3 -> {
                int n = dice.around(0, dice.oneIn(2) ? 3 : 1);
                due("seat(" + a + "," + c + "," + n + ")", x.seat(a, c, n), m.seat(a, c, n));
            }
            case 4 -> person(a, dice.around(0, 9));
            case 5, 6 -> matter(dice.around(1, 100), dice.around(0, 99), dice.around(-1, 5));
            case 7 -> { if (dice.oneIn(3)) house(); }
            case 8 -> { if (dice.oneIn(6)) { int s = dice.around(0, 127); due("feed(" + s + ")", x.feed(s), m.feed(s)); } }
            case 9, 10, 11 -> due("vote(" + a + ")", x.vote(a), m.vote(a));
            case 12 -> { int n = dice.around(0, 60); due("idle(" + n + ")", x.idle(n), m.idle(n)); }
            case 13, 14 -> {
                int seat = b;
                if (dice.oneIn(30)) a = -1;
                due("see(" + a + "," + seat + ")", x.see(a, seat), m.see(a, seat));
            }
            case 15, 16 -> {
                int told = dice.oneIn(30) ? -1 : dice.oneIn(10) ? dice.around(-2, 70) : 10 * dice.below(6) + dice.below(3);
                due("book(" + told + ")", x.book(told), m.book(told));
            }
            case 17 -> { if (dice.oneIn(3)) due("image", x.image(), m.image()); }
            case 18 -> { if (dice.oneIn(3)) due("undo", x.undo(), m.undo()); }
            default -> seeTruly();
        }
    }

    /** A row of SEEN that fits the rows before, so that some wheels have STOOD so. */
    private void seeTruly() {
        int people = m.count(0);
        int seats = m.told(0);
        if (people == 0) return;
        int p = dice.below(people);
        int seat = (p + m.count(3)) % seats;
        due("see(" + p + "," + seat + ")", x.see(p, seat), m.see(p, seat));
    }

    private void askOfVotes() {
        int a = dice.around(0, 5);
        int p = dice.around(0, 6);
        switch (dice.below(13)) {
            case 0 -> due("like(" + p + "," + a + ")", x.like(p, a), m.like(p, a));
            case 1 -> due("says(" + p + "," + a + ")", x.says(p, a), m.says(p, a));
            case 2 -> { int k = dice.around(0, 60); due("would(" + a + "," + k + ")", x.would(a, k), m.would(a, k)); }
            case 3 -> due("soon(" + a + ")", x.soon(a), m.soon(a));
            case 4 -> order();
            case 5 -> due("hold(" + a + "," + p + ")", x.hold(a, p), m.hold(a, p));
            case 6 -> due("decides(" + a + "," + p + ")", x.decides(a, p), m.decides(a, p));
            case 7 -> { int i = dice.around(0, 1); due("power(" + p + "," + i + ")", x.power(p, i), m.power(p, i)); }
            case 8 -> due("up(" + p + "," + a + ")", x.up(p, a), m.up(p, a));
            case 9 -> due("bestSeat(" + a + ")", x.bestSeat(a), m.bestSeat(a));
            case 10 -> { int i = dice.around(0, 1); due("odds(" + a + "," + i + ")", x.odds(a, i), m.odds(a, i)); }
            case 11 -> { int i = dice.around(0, 1); due("mean(" + a + "," + i + ")", x.mean(a, i), m.mean(a, i)); }
            default -> due("looked()", x.looked(), m.looked());
        }
    }

    private void order() {
        int set = 0;
        for (int i = 0; i < 6; i++) {
            if (m.at(i, 3) == 0 && dice.oneIn(2)) set |= 1 << i;
        }
        if (dice.oneIn(8)) set = dice.around(0, 63);
        int k = dice.around(-1, 5);
        due("order(" + set + "," + k + ")", x.order(set, k), m.order(set, k));
    }

    private void askOfOthers() {
        int a = dice.around(0, 6);
        int b = dice.around(0, 6);
        int c = dice.around(0, 3);
        switch (dice.below(12)) {
            case 0 -> due("of(" + a + "," + c + ")", x.of(a, c), m.of(a, c));
            case 1 -> due("who(" + a + ")", x.who(a), m.who(a));
            case 2 -> due("at(" + a + "," + c + ")", x.at(a, c), m.at(a, c));
            case 3 -> { int what = dice.around(0, 40); due("told(" + what + ")", x.told(what), m.told(what)); }
            case 4 -> {
                int s = dice.around(0, 6);
                int t = dice.around(0, 6);
                due("meet(" + a + "," + b + "," + s + "," + t + ")", x.meet(a, b, s, t), m.meet(a, b, s, t));
            }
            case 5 -> wheels();
            case 6 -> due("stood(" + c + ")", x.stood(c), m.stood(c));
            case 7 -> judge();
            case 8 -> act();
            case 9 -> { int i = dice.around(0, 12); due("trace(" + i + ")", x.trace(i), m.trace(i)); }
            case 10 -> due("taken(" + a + "," + b + ")", x.taken(a, b), m.taken(a, b));
            default -> due("count(" + a + ")", x.count(a), m.count(a));
        }
    }

    private void wheels() {
        int p = dice.around(2, 99);
        int q = dice.around(2, 99);
        int r = dice.around(0, Math.max(0, Math.min(99, p) - 1));
        int s = dice.around(0, Math.max(0, Math.min(99, q) - 1));
        due("wheels(" + p + "," + q + "," + r + "," + s + ")", x.wheels(p, q, r, s), m.wheels(p, q, r, s));
    }

    private void act() {
        int p = dice.around(0, 6);
        int act = dice.around(0, 2);
        int v = dice.oneIn(3) ? dice.below(1 << 30) * 4 : dice.below(50) - 25;
        due("act(" + p + "," + act + "," + v + ")", x.act(p, act, v), m.act(p, act, v));
        if (!dice.oneIn(3)) return;
        for (int i = 0; i < 15; i++) due("trace(" + i + ")", x.trace(i), m.trace(i));
    }

    /** A row that is mostly true is laid first, or else nobody would be found to sit as told. */
    private void judge() {
        int tape = dice.around(0, 5);
        int i = dice.around(0, 3);
        if (dice.oneIn(2)) {
            due("tape", x.tape(tape, 0, 10), m.tape(tape, 0, 10));
            int rows = dice.below(8);
            for (int p = 0; p < rows; p++) {
                int seat = dice.oneIn(12) ? dice.below(7) : m.of(p, 2);
                due("item", x.item(tape, i + p, seat), m.item(tape, i + p, seat));
            }
        }
        due("judge(" + tape + "," + i + ")", x.judge(tape, i), m.judge(tape, i));
    }

    private void tapes() {
        int tape = dice.around(0, 5);
        int i = dice.around(0, 9);
        switch (dice.below(5)) {
            case 0 -> {
                int sort = dice.around(-1, 4);
                int n = dice.oneIn(4) ? dice.around(0, 60) : dice.around(0, 12);
                due("tape(" + tape + "," + sort + "," + n + ")", x.tape(tape, sort, n), m.tape(tape, sort, n));
            }
            case 1, 2 -> {
                long v = ((long) dice.below(1 << 30) << 35) + dice.below(1 << 30) - (1 << 29) >> dice.below(60);
                due("item(" + tape + "," + i + "," + v + ")", x.item(tape, i, v), m.item(tape, i, v));
            }
            case 3 -> due("read(" + tape + "," + i + ")", x.read(tape, i), m.read(tape, i));
            default -> {
                int other = dice.oneIn(2) ? tape : dice.around(0, 5);
                int j = dice.around(0, 9);
                int n = dice.around(0, 6);
                due("shift(" + tape + "," + i + "," + other + "," + j + "," + n + ")",
                    x.shift(tape, i, other, j, n), m.shift(tape, i, other, j, n));
            }
        }
    }
}
