import java.util.ArrayList;
import java.util.Arrays;
import java.util.Comparator;
import java.util.List;

/**
 * The document once more, written apart from SeatOn in another way: KINDS are Java classes, houses are
 * texts that are looked at anew each time, questions are asked of copies, orders are tried one by one.
 */
final class Model {
    static final int NONE = -1, BAD = -2, STATE = -3, FULL = -4, NOT_ANY = -5;
    static final long NO = Long.MIN_VALUE;

    record Matter(int asks, int worth, int by, boolean carried) { }

    /** All that an image keeps, and what asks about it. */
    static final class World {
        int n = 5;
        int turn = 0;
        int[][] ofSeats = {{1, 1, 1, 1, 1, 1, 1}, new int[7], new int[7]};
        List<Voice> people = new ArrayList<>();
        List<Matter> matters = new ArrayList<>();
        List<int[]> seen = new ArrayList<>();
        List<Integer> book = new ArrayList<>();
        String house = "";

        World copy() {
            World w = new World();
            w.n = n;
            w.turn = turn;
            for (int i = 0; i < 3; i++) w.ofSeats[i] = ofSeats[i].clone();
            for (Voice p : people) w.join(p.kind(), p.v);
            w.matters.addAll(matters);
            w.seen.addAll(seen);
            w.book.addAll(book);
            w.house = house;
            return w;
        }

        World later(int k) {
            World w = copy();
            w.turn += k;
            return w;
        }

        void join(int kind, int v) {
            Voice p = switch (kind) {
                case 1 -> new Firm();
                case 2 -> new Idle();
                case 3 -> new Away();
                case 4 -> new Stubborn();
                case 5 -> new Sided();
                case 6 -> new Deaf();
                default -> new Voice();
            };
            p.world = this;
            p.i = people.size();
            p.v = v;
            people.add(p);
        }

        int who(int seat) {
            for (Voice p : people) if (p.seat() == seat) return p.i;
            return NOT_ANY;
        }

        int tie() {
            int tie = 0;
            for (String c : house.split(";")) if (c.startsWith("tie ")) tie = Integer.parseInt(c.substring(4));
            return tie;
        }

        int like(Voice p, int m) {
            int sum = 0;
            if (house.isEmpty()) return 0;
            for (String c : house.split(";")) {
                String[] parts = c.split(" ", 3);
                if (parts[0].equals("tie") || !Texts.isTrue(parts[2], p, m)) continue;
                sum += Integer.parseInt(parts[1]) * (parts[0].equals("like") ? 1 : -1);
            }
            return sum;
        }

        int[] says(int m) {
            int[] said = new int[people.size()];
            for (Voice p : people) said[p.i] = p.says(m);
            return said;
        }

        int votesFor(int[] said, int side) {
            int sum = 0;
            for (Voice p : people) if (said[p.i] == side) sum += p.votes();
            return sum;
        }

        int goes(int m, int[] said) {
            for (Voice p : people) if (said[p.i] < 0 && p.hasVeto()) return 0;
            int fors = votesFor(said, 1);
            int againsts = votesFor(said, -1);
            if (fors != againsts) return 100 * fors >= matters.get(m).asks() * (fors + againsts) ? 1 : 0;
            return people.stream()
                .filter(p -> ofSeats[2][p.seat()] == 1 && said[p.i] != 0)
                .min(Comparator.comparingInt(Voice::seat))
                .map(p -> said[p.i] > 0 ? 1 : 0)
                .orElse(tie() > 0 ? 1 : 2);
        }

        int goes(int m) {
            return goes(m, says(m));
        }

        int vote(int m) {
            int how = goes(m);
            Matter was = matters.get(m);
            if (how == 1) matters.set(m, new Matter(was.asks(), was.worth(), was.by(), true));
            if (how != 2) turn++;
            return how;
        }
    }

    static class Voice {
        World world;
        int i;
        int v;

        int kind() { return 0; }
        int seat() { return (i + world.turn) % world.n; }
        int votes() { return world.ofSeats[0][seat()]; }
        boolean hasVeto() { return world.ofSeats[1][seat()] == 1; }
        boolean isBy(int m) { return world.matters.get(m).by() == i; }
        final int asVoice(int m) { return Integer.signum(world.like(this, m)); }
        int says(int m) { return asVoice(m); }

        List<Integer> trace = new ArrayList<>();
        int rises(int x) { trace.add(10); return x + i; }
        int sits(int x) { trace.add(11); return rises(x) - v; }
        int tells(int x) { trace.add(12); return sits(x) * 2; }
    }

    static class Firm extends Voice {
        int kind() { return 1; }
        int says(int m) { return isBy(m) ? 1 : super.says(m); }
        int sits(int x) { trace.add(20); return super.sits(x) ^ 6; }
    }

    static class Idle extends Voice {
        int kind() { return 2; }
        int says(int m) { return votes() == 0 ? 0 : super.says(m); }
        int rises(int x) { trace.add(30); return super.rises(x * 3); }
    }

    static class Away extends Voice {
        int kind() { return 3; }
        int says(int m) { return world.turn % (v + 2) == 0 ? 0 : super.says(m); }
        int tells(int x) { trace.add(40); return super.tells(x) + sits(1); }
    }

    static class Stubborn extends Firm {
        int kind() { return 4; }
        int says(int m) { return !isBy(m) && hasVeto() ? -1 : super.says(m); }
        int rises(int x) { trace.add(50); return -super.rises(x); }
        int sits(int x) { trace.add(51); return super.sits(x + 1); }
    }

    static class Sided extends Idle {
        int kind() { return 5; }
        int says(int m) {
            int own = super.says(m);
            int next = world.who((seat() + 1) % world.n);
            return own != 0 ? own : next < 0 ? 0 : world.people.get(next).asVoice(m);
        }
        int tells(int x) { trace.add(60); return super.tells(x - i); }
    }

    static class Deaf extends Away {
        int kind() { return 6; }
        int says(int m) { return super.says(v % world.matters.size()); }
        int sits(int x) { trace.add(70); return super.sits(x) + super.rises(2); }
        int rises(int x) { trace.add(71); return super.rises(x) ^ v; }
    }

    private World now = new World();
    private World image = null;
    private String text = "";
    private int houses = 0;
    private List<Integer> trace = List.of();
    private final long[][] tapes = new long[6][];
    private final int[] sorts = {-1, -1, -1, -1, -1, -1};

    private boolean isSeat(int s) { return s >= 0 && s < now.n; }
    private boolean isPerson(int p) { return p >= 0 && p < now.people.size(); }
    private boolean isMatter(int m) { return m >= 0 && m < now.matters.size(); }

    int seats(int n) {
        if (n < 2 || n > 7) return BAD;
        if (now.people.size() > n) return STATE;
        int was = now.n;
        now.n = n;
        return was;
    }

    int seat(int seat, int what, int n) {
        if (!isSeat(seat) || what < 0 || what > 2) return NONE;
        if (n < 0 || n > new int[]{3, 1, 1}[what]) return BAD;
        int was = now.ofSeats[what][seat];
        now.ofSeats[what][seat] = n;
        return was;
    }

    int person(int kind, int v) {
        if (kind < 0 || kind > 6) return NONE;
        if (v < 0 || v > 9) return BAD;
        if (now.people.size() == now.n) return FULL;
        now.join(kind, v);
        return now.people.size() - 1;
    }

    int of(int person, int what) {
        if (!isPerson(person) || what < 0 || what > 2) return NONE;
        Voice p = now.people.get(person);
        return new int[]{p.kind(), p.v, p.seat()}[what];
    }

    int who(int seat) { return isSeat(seat) ? now.who(seat) : NONE; }

    int matter(int asks, int worth, int by) {
        if (by != -1 && !isPerson(by)) return NONE;
        if (asks < 1 || asks > 100 || worth < 0 || worth > 99) return BAD;
        if (now.matters.size() == 6) return FULL;
        now.matters.add(new Matter(asks, worth, by, false));
        return now.matters.size() - 1;
    }

    int at(int matter, int what) {
        if (!isMatter(matter) || what < 0 || what > 3) return NONE;
        Matter m = now.matters.get(matter);
        return new int[]{m.asks(), m.worth(), m.by() < 0 ? NOT_ANY : m.by(), m.carried() ? 1 : 0}[what];
    }

    int feed(int sign) {
        if (sign < 0 || sign > 127) return BAD;
        if (text.length() == 100) return FULL;
        text += (char) sign;
        return text.length();
    }

    int house() {
        if (houses == 6) return FULL;
        String read = text;
        text = "";
        int fault = Texts.fault(read);
        if (fault >= 0) return -10 - fault;
        now.house = read;
        return houses++;
    }

    int told(int what) {
        if (what >= 0 && what < 3) return new int[]{now.n, now.turn, now.tie()}[what];
        int row = Math.floorDiv(what, 10) - 1;
        return row >= 0 && row < 3 && isSeat(what % 10) ? now.ofSeats[row][what % 10] : NONE;
    }

    int like(int p, int m) { return isPerson(p) && isMatter(m) ? now.like(now.people.get(p), m) : -1001; }
    int says(int p, int m) { return isPerson(p) && isMatter(m) ? now.people.get(p).says(m) : -1001; }

    int vote(int m) {
        if (!isMatter(m)) return NONE;
        return now.matters.get(m).carried() || now.turn == 9999 ? STATE : now.vote(m);
    }

    int idle(int n) {
        if (n < 0 || n > 60) return BAD;
        return now.turn + n > 9999 ? STATE : (now.turn += n);
    }

    int would(int m, int k) {
        if (!isMatter(m)) return NONE;
        return k < 0 || k > 60 ? BAD : now.later(k).goes(m);
    }

    int soon(int m) {
        if (!isMatter(m)) return NONE;
        for (int k = 0; k <= 60; k++) if (now.later(k).goes(m) == 1) return k;
        return NOT_ANY;
    }

    private int bestWorth;
    private List<Integer> bestOrder;

    private void tryOrders(List<Integer> order, int left) {
        if (left == 0) {
            World w = now.copy();
            int worth = 0;
            for (int m : order) if (w.vote(m) == 1) worth += w.matters.get(m).worth();
            if (worth > bestWorth) {
                bestWorth = worth;
                bestOrder = List.copyOf(order);
            }
            return;
        }
        for (int m = 0; m < 6; m++) {
            if ((left & 1 << m) == 0) continue;
            order.add(m);
            tryOrders(order, left - (1 << m));
            order.remove(order.size() - 1);
        }
    }

    int order(int set, int k) {
        if (k < -1 || k > 5) return NONE;
        for (int bit = 0; bit < 32; bit++) {
            if ((set >> bit & 1) == 1 && (!isMatter(bit) || now.matters.get(bit).carried())) return BAD;
        }
        bestWorth = -1;
        tryOrders(new ArrayList<>(), set);
        return k < 0 ? bestWorth : k < bestOrder.size() ? bestOrder.get(k) : NOT_ANY;
    }

    private static int goesIf(World w, int m, int person, int said) {
        int[] all = w.says(m);
        all[person] = said;
        return w.goes(m, all);
    }

    int hold(int m, int p) {
        if (!isMatter(m) || !isPerson(p)) return NONE;
        return now.goes(m) == 1 && goesIf(now, m, p, -1) != 1 ? 1 : 0;
    }

    int decides(int m, int p) {
        if (!isMatter(m) || !isPerson(p)) return NONE;
        int turns = 0;
        for (int k = 0; k < now.n; k++) if (now.later(k).goes(m) != goesIf(now.later(k), m, p, 0)) turns++;
        return turns;
    }

    private static long fraction(long above, long below, int part) {
        for (long d = below; d > 1; d--) {
            if (above % d == 0 && below % d == 0) return (part == 0 ? above : below) / d;
        }
        return part == 0 ? above : below;
    }

    long power(int person, int part) {
        if (!isPerson(person) || part < 0 || part > 1) return NO;
        int count = now.people.size();
        int ways = 0;
        for (int way = 0; way < 1 << count; way++) {
            int[] with = new int[count];
            for (int q = 0; q < count; q++) with[q] = (way & 1 << q) != 0 ? 1 : -1;
            if (with[person] != 1) continue;
            int[] against = with.clone();
            against[person] = -1;
            boolean above = now.votesFor(with, 1) > now.votesFor(with, -1);
            boolean stillAbove = now.votesFor(against, 1) > now.votesFor(against, -1);
            if (above && !stillAbove) ways++;
        }
        return fraction(ways, 1L << count - 1, part);
    }

    int meet(int one, int other, int seat, int another) {
        if (!isPerson(one) || !isPerson(other) || !isSeat(seat) || !isSeat(another)) return NONE;
        if (one == other) return BAD;
        for (int k = 0; k < now.n; k++) {
            World w = now.later(k);
            if (w.who(seat) == one && w.who(another) == other) return k;
        }
        return NOT_ANY;
    }

    int wheels(int a, int b, int x, int y) {
        if (a < 2 || a > 99 || b < 2 || b > 99 || x < 0 || x >= a || y < 0 || y >= b) return BAD;
        for (int k = 0; k < a * b; k++) if (k % a == x && k % b == y) return k;
        return NOT_ANY;
    }

    int up(int person, int m) {
        if (!isPerson(person) || !isMatter(m)) return NONE;
        World w = now.copy();
        w.people.clear();
        for (Voice p : now.people) if (p.i != person) w.join(p.kind(), p.v);
        w.matters.replaceAll(x -> new Matter(x.asks(), x.worth(),
            x.by() == person ? -1 : x.by() > person ? x.by() - 1 : x.by(), x.carried()));
        return w.goes(m);
    }

    int bestSeat(int m) {
        if (!isMatter(m)) return NONE;
        int[] leads = new int[now.n];
        for (int s = 0; s < now.n; s++) {
            for (int k = 0; k < now.n; k++) {
                World w = now.later(k);
                w.ofSeats[0][s]++;
                int[] said = w.says(m);
                leads[s] += w.votesFor(said, 1) - w.votesFor(said, -1);
            }
        }
        int most = Arrays.stream(leads).max().getAsInt();
        for (int s = 0; s < now.n; s++) if (leads[s] == most) return s;
        return NOT_ANY;
    }

    int see(int person, int seat) {
        if (person == -1) {
            now.seen.clear();
            return 0;
        }
        if (!isPerson(person) || !isSeat(seat)) return NONE;
        if (now.seen.size() == 8) return FULL;
        now.seen.add(new int[]{person, seat, now.seen.size()});
        return now.seen.size();
    }

    private List<Integer> turnsOf(List<int[]> rows) {
        List<Integer> turns = new ArrayList<>();
        for (int t = 0; t < now.n; t++) {
            int first = t;
            if (rows.stream().allMatch(r -> (r[0] + first + r[2]) % now.n == r[1])) turns.add(t);
        }
        return turns;
    }

    int stood(int what) {
        List<Integer> turns = turnsOf(now.seen);
        if (what == 0) return turns.size();
        if (what == 1) return turns.isEmpty() ? NOT_ANY : turns.get(0);
        if (what != 2) return NONE;
        for (int r = 0; turns.isEmpty() && r < now.seen.size(); r++) {
            List<int[]> others = new ArrayList<>(now.seen);
            others.remove(r);
            if (!turnsOf(others).isEmpty()) return r;
        }
        return NOT_ANY;
    }

    private int[] oddsOf(int m, int[] said, int from) {
        if (from == said.length) return new int[]{now.goes(m, said) == 1 ? 1 : 0, 1};
        if (said[from] != 0) return oddsOf(m, said, from + 1);
        int[] sum = new int[2];
        for (int side = -1; side <= 1; side += 2) {
            int[] then = said.clone();
            then[from] = side;
            int[] part = oddsOf(m, then, from + 1);
            sum[0] += part[0];
            sum[1] += part[1];
        }
        return sum;
    }

    long odds(int m, int part) {
        if (!isMatter(m) || part < 0 || part > 1) return NO;
        int[] odds = oddsOf(m, now.says(m), 0);
        return fraction(odds[0], odds[1], part);
    }

    long mean(int m, int part) {
        if (!isMatter(m) || part < 0 || part > 1) return NO;
        int sum = 0;
        for (int k = 0; k < now.n; k++) {
            World w = now.later(k);
            sum += w.votesFor(w.says(m), 1);
        }
        return fraction(sum, now.n, part);
    }

    int book(int told) {
        if (told == -1) {
            now.book.clear();
            return 0;
        }
        if (!isMatter(Math.floorDiv(told, 10)) || told % 10 > 2) return NONE;
        if (now.book.size() == 12) return FULL;
        now.book.add(told);
        return now.book.size();
    }

    int looked() {
        World w = now.copy();
        for (int r = 0; r < w.book.size(); r++) {
            int m = w.book.get(r) / 10;
            if (w.matters.get(m).carried() || w.vote(m) != w.book.get(r) % 10) return r;
        }
        return NOT_ANY;
    }

    int judge(int tape, int i) {
        if (tape < 0 || tape > 5) return NONE;
        if (sorts[tape] > 0) return -12;
        if (now.people.isEmpty()) return NOT_ANY;
        long[] row = tapes[tape];
        if (row == null || i < 0) return 100;
        for (Voice p : now.people) {
            long place = (long) i + p.i;
            if (place >= row.length) return 100 + p.i;
            if (row[(int) place] != p.seat()) return p.i;
        }
        return NOT_ANY;
    }

    int image() {
        image = now.copy();
        return now.people.size();
    }

    int undo() {
        if (image == null) return STATE;
        now = image.copy();
        return now.people.size();
    }

    int act(int person, int act, int x) {
        trace = List.of();
        if (!isPerson(person) || act < 0 || act > 2) return 0;
        Voice p = now.people.get(person);
        p.trace = new ArrayList<>();
        trace = p.trace;
        return act == 0 ? p.rises(x) : act == 1 ? p.sits(x) : p.tells(x);
    }

    int trace(int i) { return i >= 0 && i < Math.min(20, trace.size()) ? trace.get(i) : NONE; }

    int taken(int person, int k) {
        if (k < 0 || k > 6) return BAD;
        if (!isPerson(person)) return -11;
        Class<?>[] kinds = {Voice.class, Firm.class, Idle.class, Away.class, Stubborn.class, Sided.class, Deaf.class};
        Voice p = now.people.get(person);
        return kinds[k].isInstance(p) ? p.kind() : -12;
    }

    int count(int what) {
        int[] counts = {now.people.size(), now.matters.size(), houses, now.seen.size(), now.book.size(),
            text.length(), trace.size()};
        return what >= 0 && what < 7 ? counts[what] : BAD;
    }

    int tape(int tape, int sort, int n) {
        if (tape < 0 || tape > 5) return NONE;
        if (sort < -1 || sort > 4 || sort >= 0 && n > 60) return BAD;
        if (sort >= 0 && n < 0) return -14;
        sorts[tape] = sort;
        tapes[tape] = sort < 0 ? null : new long[n];
        return 1;
    }

    int item(int tape, int i, long v) {
        if (tape < 0 || tape > 5) return NONE;
        if (tapes[tape] == null) return -11;
        if (i < 0 || i >= tapes[tape].length) return -13;
        int spare = new int[]{56, 48, 32, 0, 0}[sorts[tape]];
        tapes[tape][i] = sorts[tape] == 4 ? (v != 0 ? 1 : 0) : v << spare >> spare;
        return 1;
    }

    long read(int tape, int i) {
        if (tape < 0 || tape > 5 || tapes[tape] == null || i < 0 || i >= tapes[tape].length) return NO;
        return tapes[tape][i];
    }

    int shift(int tape, int i, int other, int j, int n) {
        if (tape < 0 || tape > 5 || other < 0 || other > 5) return NONE;
        if (tapes[tape] == null || tapes[other] == null) return -11;
        if (sorts[tape] != sorts[other]) return -12;
        long end = (long) i + n;
        long otherEnd = (long) j + n;
        if (n < 0 || i < 0 || j < 0 || end > tapes[tape].length || otherEnd > tapes[other].length) return -13;
        long[] before = tapes[tape].clone();
        for (int k = 0; k < n; k++) tapes[other][j + k] = before[i + k];
        return n;
    }
}
