/** A wheel of seats on which all people move one on behind each vote; shared/DOC.md tells what each call does. */
public final class SeatOn {
    public static final int NONE = -1, BAD = -2, STATE = -3, FULL = -4;
    public static final long NO = Long.MIN_VALUE;

    private static final int NOT_ANY = -5, NOTHING = -11, CAST = -12, PLACE = -13, SIZE = -14;
    private static final int NO_LIKE = -1001, FAULT_BASE = -10, ENDED_EARLY = 100;
    private static final int MOST_SEATS = 7, MOST_MATTERS = 6, MOST_HOUSES = 6, MOST_IDLE = 60, LAST_TURN = 9999;
    private static final int KINDS = 7, VOICE = 0, FIRM = 1, IDLE = 2, AWAY = 3, STUBBORN = 4, SIDED = 5, DEAF = 6;
    private static final int FALLS = 0, CARRIED = 1, TIED = 2;
    /** The KIND above each KIND. */
    private static final int[] ABOVE = {-1, VOICE, VOICE, VOICE, FIRM, IDLE, AWAY};

    private final Wheel now = new Wheel();
    private final Wheel kept = new Wheel();
    /** What questions turn as they like, so that all stays as it is now. */
    private final Wheel asked = new Wheel();
    private final Seen seen = new Seen();
    private final Seen keptSeen = new Seen();
    private final Book notes = new Book();
    private final Book keptNotes = new Book();
    private final Reader reader = new Reader();
    private final Agenda agenda = new Agenda();
    private final Acts acts = new Acts();
    private final Tapes tapes = new Tapes();
    /** The HOUSE that the next text is read into; only one that was read whole is given away. */
    private House spare = new House();
    private int houses = 0;
    private boolean hasImage = false;

    public SeatOn() {
    }

    // ---- seats, people, matters, houses

    public int seats(int n) {
        if (n < 2 || n > MOST_SEATS) return BAD;
        if (now.people > n) return STATE;
        int before = now.seats;
        now.seats = n;
        return before;
    }

    public int seat(int seat, int what, int n) {
        if (!isSeat(seat) || what < 0 || what > 2) return NONE;
        if (n < 0 || n > (what == 0 ? 3 : 1)) return BAD;
        int[] row = now.rowOfSeats(what);
        int before = row[seat];
        row[seat] = n;
        return before;
    }

    public int person(int kind, int v) {
        if (kind < 0 || kind >= KINDS) return NONE;
        if (v < 0 || v > 9) return BAD;
        if (now.people >= now.seats) return FULL;
        now.kinds[now.people] = kind;
        now.numbers[now.people] = v;
        return now.people++;
    }

    public int of(int person, int what) {
        if (!isPerson(person)) return NONE;
        switch (what) {
            case 0: return now.kinds[person];
            case 1: return now.numbers[person];
            case 2: return now.seatOf(person);
            default: return NONE;
        }
    }

    public int who(int seat) {
        return isSeat(seat) ? now.sitter(seat) : NONE;
    }

    public int matter(int asks, int worth, int by) {
        if (by != Wheel.NOBODY && !isPerson(by)) return NONE;
        if (asks < 1 || asks > 100 || worth < 0 || worth > 99) return BAD;
        if (now.matters >= MOST_MATTERS) return FULL;
        now.asks[now.matters] = asks;
        now.worths[now.matters] = worth;
        now.bys[now.matters] = by;
        now.carried[now.matters] = 0;
        return now.matters++;
    }

    public int at(int matter, int what) {
        if (!isMatter(matter)) return NONE;
        switch (what) {
            case 0: return now.asks[matter];
            case 1: return now.worths[matter];
            case 2: return now.bys[matter] == Wheel.NOBODY ? NOT_ANY : now.bys[matter];
            case 3: return now.carried[matter];
            default: return NONE;
        }
    }

    public int feed(int sign) {
        if (sign < 0 || sign > 127) return BAD;
        return reader.add(sign) ? reader.length : FULL;
    }

    public int house() {
        if (houses >= MOST_HOUSES) return FULL;
        int fault = reader.parse(spare);
        reader.length = 0;
        if (fault != Reader.NO_FAULT) return FAULT_BASE - fault;
        now.holding = spare;
        spare = new House();
        return houses++;
    }

    public int told(int what) {
        switch (what) {
            case 0: return now.seats;
            case 1: return now.turn;
            case 2: return now.tie();
            default: return what < 10 || what > 39 ? NONE : toldOfSeat(what % 10, what / 10 - 1);
        }
    }

    private int toldOfSeat(int seat, int what) {
        return isSeat(seat) ? now.rowOfSeats(what)[seat] : NONE;
    }

    // ---- votes

    public int like(int person, int matter) {
        return isPerson(person) && isMatter(matter) ? now.liking(person, matter) : NO_LIKE;
    }

    public int says(int person, int matter) {
        return isPerson(person) && isMatter(matter) ? now.answer(person, matter) : NO_LIKE;
    }

    public int vote(int matter) {
        if (!isMatter(matter)) return NONE;
        if (now.carried[matter] == 1 || now.turn >= LAST_TURN) return STATE;
        return now.decide(matter);
    }

    public int idle(int n) {
        if (n < 0 || n > MOST_IDLE) return BAD;
        if (now.turn + n > LAST_TURN) return STATE;
        now.turn += n;
        return now.turn;
    }

    public int would(int matter, int k) {
        if (!isMatter(matter)) return NONE;
        if (k < 0 || k > MOST_IDLE) return BAD;
        ask();
        return goesBehind(matter, k);
    }

    public int soon(int matter) {
        if (!isMatter(matter)) return NONE;
        ask();
        for (int k = 0; k <= MOST_IDLE; k++) {
            if (goesBehind(matter, k) == CARRIED) return k;
        }
        return NOT_ANY;
    }

    public int order(int set, int k) {
        if (k < -1 || k >= MOST_MATTERS) return NONE;
        if (!areOpen(set)) return BAD;
        lookAhead(set);
        agenda.weigh(set);
        return k == -1 ? agenda.mostOf(set) : agenda.pick(set, k);
    }

    /** Whether each MATTER of the set is there and not CARRIED. */
    private boolean areOpen(int set) {
        if (set < 0 || set >= 1 << now.matters) return false;
        for (int m = 0; m < now.matters; m++) {
            if ((set >> m & 1) == 1 && now.carried[m] == 1) return false;
        }
        return true;
    }

    /** The agenda is told how each VOTE of the set would go behind so many others. */
    private void lookAhead(int set) {
        ask();
        for (int gone = 0; gone < Integer.bitCount(set); gone++) {
            asked.turn = now.turn + gone;
            for (int m = 0; m < now.matters; m++) {
                if ((set >> m & 1) == 0) continue;
                asked.hear(m);
                agenda.put(m, gone, asked.goes(m), now.worths[m]);
            }
        }
    }

    // ---- who decides

    public int hold(int matter, int person) {
        if (!isMatter(matter) || !isPerson(person)) return NONE;
        ask();
        if (goesBehind(matter, 0) != CARRIED) return 0;
        asked.said[person] = -1;
        return asked.goes(matter) == CARRIED ? 0 : 1;
    }

    public int decides(int matter, int person) {
        if (!isMatter(matter) || !isPerson(person)) return NONE;
        ask();
        int turns = 0;
        for (int k = 0; k < now.seats; k++) {
            int with = goesBehind(matter, k);
            asked.said[person] = 0;
            if (asked.goes(matter) != with) turns++;
        }
        return turns;
    }

    public long power(int person, int part) {
        if (!isPerson(person) || !isPart(part)) return NO;
        int own = now.votes[now.seatOf(person)];
        int decisive = 0;
        for (int way = 0; way < 1 << now.people; way++) {
            if ((way >> person & 1) == 1) continue;
            int lead = leadOfOthers(way, person);
            if (lead + own > 0 && lead - own <= 0) decisive++;
        }
        return inLowestTerms(decisive, 1 << (now.people - 1), part);
    }

    /** FORS less AGAINSTS of all but one, where bit q of the way tells whether q SAYS 1. */
    private int leadOfOthers(int way, int person) {
        int lead = 0;
        for (int q = 0; q < now.people; q++) {
            if (q == person) continue;
            int weight = now.votes[now.seatOf(q)];
            lead += (way >> q & 1) == 1 ? weight : -weight;
        }
        return lead;
    }

    public int meet(int one, int other, int seat, int another) {
        if (!isPerson(one) || !isPerson(other) || !isSeat(seat) || !isSeat(another)) return NONE;
        if (one == other) return BAD;
        ask();
        for (int k = 0; k < now.seats; k++) {
            asked.turn = now.turn + k;
            if (asked.seatOf(one) == seat && asked.seatOf(other) == another) return k;
        }
        return NOT_ANY;
    }

    public int wheels(int a, int b, int x, int y) {
        if (a < 2 || a > 99 || b < 2 || b > 99) return BAD;
        if (x < 0 || x >= a || y < 0 || y >= b) return BAD;
        for (int rounds = 0; rounds < b; rounds++) {
            int k = rounds * a + x;
            if (k % b == y) return k;
        }
        return NOT_ANY;
    }

    public int up(int person, int matter) {
        if (!isPerson(person) || !isMatter(matter)) return NONE;
        ask();
        asked.resign(person);
        return goesBehind(matter, 0);
    }

    public int bestSeat(int matter) {
        if (!isMatter(matter)) return NONE;
        int best = 0;
        int most = 0;
        for (int s = 0; s < now.seats; s++) {
            int lead = leadWithMore(s, matter);
            if (s == 0 || lead > most) {
                best = s;
                most = lead;
            }
        }
        return best;
    }

    /** FORS less AGAINSTS in a whole round, had the SEAT one of VOTES more. */
    private int leadWithMore(int seat, int matter) {
        ask();
        asked.votes[seat]++;
        int lead = 0;
        for (int k = 0; k < now.seats; k++) {
            asked.turn = now.turn + k;
            asked.hear(matter);
            lead += asked.votesOfWhoSay(1) - asked.votesOfWhoSay(-1);
        }
        return lead;
    }

    // ---- seen

    public int see(int person, int seat) {
        if (person == -1) {
            seen.rows = 0;
            return 0;
        }
        if (!isPerson(person) || !isSeat(seat)) return NONE;
        return seen.add(person, seat) ? seen.rows : FULL;
    }

    public int stood(int what) {
        switch (what) {
            case 0: return seen.turns(now.seats);
            case 1: return seen.firstTurn(now.seats, Seen.NO_ROW);
            case 2: return seen.falseRow(now.seats);
            default: return NONE;
        }
    }

    // ---- odds, books

    public long odds(int matter, int part) {
        if (!isMatter(matter) || !isPart(part)) return NO;
        ask();
        asked.hear(matter);
        int silent = asked.silent();
        int carrying = 0;
        for (int way = 0; way < 1 << asked.people; way++) {
            if ((way & ~silent) != 0) continue;
            asked.breakSilence(silent, way);
            if (asked.goes(matter) == CARRIED) carrying++;
        }
        return inLowestTerms(carrying, 1 << Integer.bitCount(silent), part);
    }

    public long mean(int matter, int part) {
        if (!isMatter(matter) || !isPart(part)) return NO;
        ask();
        int fors = 0;
        for (int k = 0; k < now.seats; k++) {
            asked.turn = now.turn + k;
            asked.hear(matter);
            fors += asked.votesOfWhoSay(1);
        }
        return inLowestTerms(fors, now.seats, part);
    }

    public int book(int told) {
        if (told == -1) {
            notes.rows = 0;
            return 0;
        }
        if (told < 0 || !isMatter(told / 10) || told % 10 > TIED) return NONE;
        return notes.add(told) ? notes.rows : FULL;
    }

    public int looked() {
        ask();
        for (int r = 0; r < notes.rows; r++) {
            int matter = notes.matterOf(r);
            if (asked.carried[matter] == 1 || asked.decide(matter) != notes.howOf(r)) return r;
        }
        return NOT_ANY;
    }

    // ---- judging, the image, acts, tapes

    public int judge(int tape, int i) {
        if (!Tapes.isTape(tape)) return NONE;
        if (tapes.holds(tape) && tapes.sorts[tape] != Tapes.BYTES) return CAST;
        for (int p = 0; p < now.people; p++) {
            // A place near the greatest int has no places behind it, so the place is told as a long.
            if (i < 0 || !tapes.hasPlace(tape, (long) i + p)) return ENDED_EARLY + p;
            if (tapes.get(tape, i + p) != now.seatOf(p)) return p;
        }
        return NOT_ANY;
    }

    public int image() {
        kept.becomeAs(now);
        keptSeen.becomeAs(seen);
        keptNotes.becomeAs(notes);
        hasImage = true;
        return now.people;
    }

    public int undo() {
        if (!hasImage) return STATE;
        now.becomeAs(kept);
        seen.becomeAs(keptSeen);
        notes.becomeAs(keptNotes);
        return now.people;
    }

    public int act(int person, int act, int x) {
        acts.ran = 0;
        if (!isPerson(person) || act < 0 || act >= Acts.ACTS) return 0;
        return acts.begin(person, now.kinds[person], now.numbers[person], act, x);
    }

    public int trace(int i) {
        return i >= 0 && i < acts.ran && i < acts.trace.length ? acts.trace[i] : NONE;
    }

    public int taken(int person, int k) {
        if (k < 0 || k >= KINDS) return BAD;
        if (!isPerson(person)) return NOTHING;
        int kind = now.kinds[person];
        return isUnder(kind, k) ? kind : CAST;
    }

    /** Whether a KIND is the other, or under it. */
    private static boolean isUnder(int kind, int other) {
        int above = kind;
        for (int steps = 0; steps < KINDS && above >= 0; steps++) {
            if (above == other) return true;
            above = ABOVE[above];
        }
        return false;
    }

    public int count(int what) {
        switch (what) {
            case 0: return now.people;
            case 1: return now.matters;
            case 2: return houses;
            case 3: return seen.rows;
            case 4: return notes.rows;
            case 5: return reader.length;
            case 6: return acts.ran;
            default: return BAD;
        }
    }

    public int tape(int tape, int sort, int n) {
        if (!Tapes.isTape(tape)) return NONE;
        if (sort == Tapes.NO_SORT) {
            tapes.empty(tape);
            return 1;
        }
        if (sort < 0 || sort >= Tapes.SORTS || n > Tapes.MOST_ITEMS) return BAD;
        if (n < 0) return SIZE;
        tapes.lay(tape, sort, n);
        return 1;
    }

    public int item(int tape, int i, long v) {
        if (!Tapes.isTape(tape)) return NONE;
        if (!tapes.holds(tape)) return NOTHING;
        if (!tapes.hasPlace(tape, i)) return PLACE;
        tapes.set(tape, i, v);
        return 1;
    }

    public long read(int tape, int i) {
        return Tapes.isTape(tape) && tapes.hasPlace(tape, i) ? tapes.get(tape, i) : NO;
    }

    public int shift(int tape, int i, int other, int j, int n) {
        if (!Tapes.isTape(tape) || !Tapes.isTape(other)) return NONE;
        if (!tapes.holds(tape) || !tapes.holds(other)) return NOTHING;
        if (tapes.sorts[tape] != tapes.sorts[other]) return CAST;
        if (!tapes.hasPlaces(tape, i, n) || !tapes.hasPlaces(other, j, n)) return PLACE;
        tapes.move(tape, i, other, j, n);
        return n;
    }

    // ---- what the calls share

    private boolean isSeat(int seat) {
        return seat >= 0 && seat < now.seats;
    }

    private boolean isPerson(int person) {
        return person >= 0 && person < now.people;
    }

    private boolean isMatter(int matter) {
        return matter >= 0 && matter < now.matters;
    }

    private static boolean isPart(int part) {
        return part == 0 || part == 1;
    }

    /** The wheel that is asked stands as all is now. */
    private void ask() {
        asked.becomeAs(now);
    }

    /** How a VOTE would go on the wheel that is asked, k TURNS from now; who SAYS what is left there. */
    private int goesBehind(int matter, int k) {
        asked.turn = now.turn + k;
        asked.hear(matter);
        return asked.goes(matter);
    }

    private static long inLowestTerms(int above, int below, int part) {
        int divisor = greatestDivisor(above, below);
        if (divisor == 0) return NO;
        return (part == 0 ? above : below) / divisor;
    }

    private static int greatestDivisor(int a, int b) {
        int divisor = a;
        int rest = b;
        for (int steps = 0; steps < 64 && rest != 0; steps++) {
            int next = divisor % rest;
            divisor = rest;
            rest = next;
        }
        return divisor;
    }

    /** SEATS, PEOPLE, MATTERS, TURN and which HOUSE holds; who SAYS what, and how a VOTE goes. */
    private static final class Wheel {
        static final int NOBODY = -1;
        private static final int AS_VOICE = 2;

        int seats = 5;
        final int[] votes = {1, 1, 1, 1, 1, 1, 1};
        final int[] vetoes = new int[MOST_SEATS];
        final int[] breakers = new int[MOST_SEATS];
        int people = 0;
        final int[] kinds = new int[MOST_SEATS];
        final int[] numbers = new int[MOST_SEATS];
        int matters = 0;
        final int[] asks = new int[MOST_MATTERS];
        final int[] worths = new int[MOST_MATTERS];
        final int[] bys = new int[MOST_MATTERS];
        final int[] carried = new int[MOST_MATTERS];
        int turn = 0;
        House holding = null;
        /** What each of the PEOPLE SAID when last heard; a question may put other answers in. */
        final int[] said = new int[MOST_SEATS];
        /** What tests look at, in the order of their letters. */
        private final int[] facts = new int[House.LETTERS];

        void becomeAs(Wheel other) {
            seats = other.seats;
            System.arraycopy(other.votes, 0, votes, 0, MOST_SEATS);
            System.arraycopy(other.vetoes, 0, vetoes, 0, MOST_SEATS);
            System.arraycopy(other.breakers, 0, breakers, 0, MOST_SEATS);
            people = other.people;
            System.arraycopy(other.kinds, 0, kinds, 0, MOST_SEATS);
            System.arraycopy(other.numbers, 0, numbers, 0, MOST_SEATS);
            matters = other.matters;
            System.arraycopy(other.asks, 0, asks, 0, MOST_MATTERS);
            System.arraycopy(other.worths, 0, worths, 0, MOST_MATTERS);
            System.arraycopy(other.bys, 0, bys, 0, MOST_MATTERS);
            System.arraycopy(other.carried, 0, carried, 0, MOST_MATTERS);
            turn = other.turn;
            holding = other.holding;
        }

        /** Of SEATS 0 VOTES, 1 VETO, else BREAKS ties. */
        int[] rowOfSeats(int what) {
            return what == 0 ? votes : what == 1 ? vetoes : breakers;
        }

        int seatOf(int person) {
            return (person + turn) % seats;
        }

        int sitter(int seat) {
            for (int p = 0; p < people; p++) {
                if (seatOf(p) == seat) return p;
            }
            return NOT_ANY;
        }

        int tie() {
            return holding == null ? 0 : holding.tie;
        }

        int liking(int person, int matter) {
            if (holding == null) return 0;
            int seat = seatOf(person);
            facts[0] = person;
            facts[1] = seat;
            facts[2] = kinds[person];
            facts[3] = matter;
            facts[4] = turn % 60;
            facts[5] = votes[seat];
            return holding.weigh(facts);
        }

        int answer(int person, int matter) {
            int answer = answerOfKind(person, matter);
            if (answer == AS_VOICE) answer = signOf(liking(person, heardBy(person, matter)));
            if (answer != 0 || kinds[person] != SIDED) return answer;
            int neighbour = sitter((seatOf(person) + 1) % seats);
            return neighbour == NOT_ANY ? 0 : signOf(liking(neighbour, matter));
        }

        /** What the KIND alone lets one SAY, or that it is as a VOICE. */
        private int answerOfKind(int person, int matter) {
            int seat = seatOf(person);
            boolean isOwn = bys[matter] == person;
            switch (kinds[person]) {
                case FIRM: return isOwn ? 1 : AS_VOICE;
                case STUBBORN: return isOwn ? 1 : vetoes[seat] == 1 ? -1 : AS_VOICE;
                case IDLE:
                case SIDED: return votes[seat] == 0 ? 0 : AS_VOICE;
                case AWAY:
                case DEAF: return turn % (numbers[person] + 2) == 0 ? 0 : AS_VOICE;
                default: return AS_VOICE;
            }
        }

        private int heardBy(int person, int matter) {
            return kinds[person] == DEAF && matters > 0 ? numbers[person] % matters : matter;
        }

        private static int signOf(int liking) {
            return liking > 0 ? 1 : liking < 0 ? -1 : 0;
        }

        void hear(int matter) {
            for (int p = 0; p < people; p++) said[p] = answer(p, matter);
        }

        /** Of the PEOPLE who SAID 0 a bit each. */
        int silent() {
            int bits = 0;
            for (int p = 0; p < people; p++) {
                if (said[p] == 0) bits |= 1 << p;
            }
            return bits;
        }

        /** The silent ones SAY 1 where their bit of the way is set, else -1. */
        void breakSilence(int silent, int way) {
            for (int p = 0; p < people; p++) {
                if ((silent >> p & 1) == 1) said[p] = (way >> p & 1) == 1 ? 1 : -1;
            }
        }

        int votesOfWhoSay(int answer) {
            int sum = 0;
            for (int p = 0; p < people; p++) {
                if (said[p] == answer) sum += votes[seatOf(p)];
            }
            return sum;
        }

        /** How a VOTE goes by what was SAID: falls, CARRIED or TIED. */
        int goes(int matter) {
            if (isVetoed()) return FALLS;
            int fors = votesOfWhoSay(1);
            int againsts = votesOfWhoSay(-1);
            if (fors == againsts) return goesByTie();
            return 100 * fors >= asks[matter] * (fors + againsts) ? CARRIED : FALLS;
        }

        private boolean isVetoed() {
            for (int p = 0; p < people; p++) {
                if (said[p] == -1 && vetoes[seatOf(p)] == 1) return true;
            }
            return false;
        }

        private int goesByTie() {
            for (int s = 0; s < seats; s++) {
                int breaker = breakers[s] == 1 ? sitter(s) : NOT_ANY;
                if (breaker != NOT_ANY && said[breaker] != 0) return said[breaker] == 1 ? CARRIED : FALLS;
            }
            return tie() > 0 ? CARRIED : TIED;
        }

        /** A VOTE, with what comes of it. */
        int decide(int matter) {
            hear(matter);
            int how = goes(matter);
            if (how == CARRIED) carried[matter] = 1;
            if (how != TIED) turn++;
            return how;
        }

        void resign(int person) {
            people--;
            for (int p = person; p < people; p++) {
                kinds[p] = kinds[p + 1];
                numbers[p] = numbers[p + 1];
            }
            for (int m = 0; m < matters; m++) {
                if (bys[m] == person) bys[m] = NOBODY;
                else if (bys[m] > person) bys[m]--;
            }
        }
    }

    /** A HOUSE as it was read: of each CLAUSE the weight and the steps of its E, a sign behind what it joins. */
    private static final class House {
        static final int NOT = -1, AND = -2, OR = -3, LETTERS = 6;
        private static final int RELATIONS = 3, BELOW = 0, SAME = 1, NUMBERS = 100;

        int tie = 0;
        private int clauses = 0;
        private final int[] weights = new int[Reader.MOST_CLAUSES];
        private final int[] ends = new int[Reader.MOST_CLAUSES];
        private int steps = 0;
        /** A test as one number, which is never below 0 as the signs are. */
        private final int[] code = new int[Reader.MOST_SIGNS];

        void clear() {
            tie = 0;
            clauses = 0;
            steps = 0;
        }

        void addTest(int letter, int relation, int number) {
            addStep((letter * RELATIONS + relation) * NUMBERS + number);
        }

        void addStep(int step) {
            if (steps < code.length) code[steps++] = step;
        }

        /** All steps since the CLAUSE before are this one's. */
        void endClause(int weight) {
            if (clauses >= ends.length) return;
            weights[clauses] = weight;
            ends[clauses] = steps;
            clauses++;
        }

        /** What is still to be joined stands as bits: 4 in one another leave 11 of them at most. */
        int weigh(int[] facts) {
            int sum = 0;
            int from = 0;
            for (int c = 0; c < clauses; c++) {
                int bits = 0;
                for (int i = from; i < ends[c]; i++) {
                    int step = code[i];
                    bits = step < 0 ? joined(step, bits) : bits << 1 | (meets(step, facts) ? 1 : 0);
                }
                if ((bits & 1) == 1) sum += weights[c];
                from = ends[c];
            }
            return sum;
        }

        private static int joined(int sign, int bits) {
            int last = bits & 1;
            int before = bits >> 1;
            switch (sign) {
                case NOT: return bits ^ 1;
                case AND: return last == 1 ? before : before & ~1;
                case OR: return before | last;
                default: return bits;
            }
        }

        private static boolean meets(int test, int[] facts) {
            int letter = test / NUMBERS / RELATIONS;
            if (letter >= facts.length) return false;
            int number = test % NUMBERS;
            switch (test / NUMBERS % RELATIONS) {
                case BELOW: return facts[letter] < number;
                case SAME: return facts[letter] == number;
                default: return facts[letter] > number;
            }
        }
    }

    /** THE TEXT, and how a HOUSE is read from it: where a part can't be read, the place stays at the FAULT. */
    private static final class Reader {
        static final int NO_FAULT = -1;
        static final int MOST_SIGNS = 100, MOST_CLAUSES = 10, MOST_DEPTH = 4;
        private static final int NO_WORD = -1, LIKE = 0, LOATH = 1, TIE = 2;
        private static final String LETTERS = "pskmtw", RELATIONS = "<=>";

        int length = 0;
        private final int[] text = new int[MOST_SIGNS];
        private int place = 0;

        boolean add(int sign) {
            if (length >= MOST_SIGNS) return false;
            text[length++] = sign;
            return true;
        }

        /** The FAULT, or that there is none. */
        int parse(House house) {
            house.clear();
            place = 0;
            for (int left = MOST_CLAUSES - 1; left >= 0; left--) {
                if (!passClause(house)) return place;
                if (place >= length) return NO_FAULT;
                if (left == 0 || !passSign(';')) return place;
            }
            return place;
        }

        private boolean passSign(int sign) {
            if (place >= length || text[place] != sign) return false;
            place++;
            return true;
        }

        private boolean passWord(String word) {
            for (int i = 0; i < word.length(); i++) {
                if (!passSign(word.charAt(i))) return false;
            }
            return true;
        }

        private boolean passClause(House house) {
            int word = passKeyword();
            int n = word == NO_WORD ? -1 : passNumber();
            if (n < 0) return false;
            if (word == TIE) {
                house.tie = n;
                return true;
            }
            if (!passSign(' ') || !passEither(house, 0)) return false;
            house.endClause(word == LIKE ? n : -n);
            return true;
        }

        /** The word of a CLAUSE and the blank behind it. */
        private int passKeyword() {
            if (passSign('t')) return passWord("ie ") ? TIE : NO_WORD;
            if (!passSign('l')) return NO_WORD;
            if (passSign('i')) return passWord("ke ") ? LIKE : NO_WORD;
            return passWord("oath ") ? LOATH : NO_WORD;
        }

        /** A number of 1 or 2 digits; -1 if there is none. */
        private int passNumber() {
            int number = -1;
            for (int digits = 0; digits < 2 && place < length; digits++) {
                int digit = text[place] - '0';
                if (digit < 0 || digit > 9) break;
                number = number < 0 ? digit : number * 10 + digit;
                place++;
            }
            return number;
        }

        /** Which one of the signs it was; -1 if none. */
        private int passOneOf(String signs) {
            for (int i = 0; i < signs.length(); i++) {
                if (place < length && signs.charAt(i) == text[place]) {
                    place++;
                    return i;
                }
            }
            return -1;
        }

        private boolean passEither(House house, int depth) {
            if (!passBoth(house, depth)) return false;
            for (int more = 0; more < MOST_SIGNS && passSign('|'); more++) {
                if (!passBoth(house, depth)) return false;
                house.addStep(House.OR);
            }
            return true;
        }

        private boolean passBoth(House house, int depth) {
            if (!passPart(house, depth)) return false;
            for (int more = 0; more < MOST_SIGNS && passSign('&'); more++) {
                if (!passPart(house, depth)) return false;
                house.addStep(House.AND);
            }
            return true;
        }

        private boolean passPart(House house, int depth) {
            if (depth < MOST_DEPTH && passSign('!')) return passNot(house, depth + 1);
            if (depth < MOST_DEPTH && passSign('(')) return passEither(house, depth + 1) && passSign(')');
            return passTest(house);
        }

        /** What is behind the !. */
        private boolean passNot(House house, int depth) {
            if (!passPart(house, depth)) return false;
            house.addStep(House.NOT);
            return true;
        }

        private boolean passTest(House house) {
            int letter = passOneOf(LETTERS);
            if (letter < 0) return false;
            int relation = passOneOf(RELATIONS);
            if (relation < 0) return false;
            int number = passNumber();
            if (number < 0) return false;
            house.addTest(letter, relation, number);
            return true;
        }
    }

    /** Rows of who was SEEN in which SEAT, each one TURN behind the one before. */
    private static final class Seen {
        static final int MOST_ROWS = 8, NO_ROW = -1;

        int rows = 0;
        private final int[] people = new int[MOST_ROWS];
        private final int[] places = new int[MOST_ROWS];

        void becomeAs(Seen other) {
            rows = other.rows;
            System.arraycopy(other.people, 0, people, 0, MOST_ROWS);
            System.arraycopy(other.places, 0, places, 0, MOST_ROWS);
        }

        boolean add(int person, int seat) {
            if (rows >= MOST_ROWS) return false;
            people[rows] = person;
            places[rows] = seat;
            rows++;
            return true;
        }

        int turns(int seats) {
            int turns = 0;
            for (int t = 0; t < seats; t++) {
                if (fits(t, seats, NO_ROW)) turns++;
            }
            return turns;
        }

        int firstTurn(int seats, int without) {
            for (int t = 0; t < seats; t++) {
                if (fits(t, seats, without)) return t;
            }
            return NOT_ANY;
        }

        int falseRow(int seats) {
            if (firstTurn(seats, NO_ROW) != NOT_ANY) return NOT_ANY;
            for (int r = 0; r < rows; r++) {
                if (firstTurn(seats, r) != NOT_ANY) return r;
            }
            return NOT_ANY;
        }

        private boolean fits(int turn, int seats, int without) {
            if (seats <= 0) return false;
            for (int r = 0; r < rows; r++) {
                if (r != without && (people[r] + turn + r) % seats != places[r]) return false;
            }
            return true;
        }
    }

    /** VOTES told by hand. */
    private static final class Book {
        static final int MOST_ROWS = 12;

        int rows = 0;
        private final int[] told = new int[MOST_ROWS];

        void becomeAs(Book other) {
            rows = other.rows;
            System.arraycopy(other.told, 0, told, 0, MOST_ROWS);
        }

        boolean add(int row) {
            if (rows >= MOST_ROWS) return false;
            told[rows++] = row;
            return true;
        }

        int matterOf(int row) {
            return told[row] / 10;
        }

        int howOf(int row) {
            return told[row] % 10;
        }
    }

    /**
     * The best order of a set of MATTERS. How a VOTE goes hangs on TURN alone, so what is left of the
     * set and how many TURNS have gone by tell all of what can still be had.
     */
    private static final class Agenda {
        private static final int TURNS = MOST_MATTERS + 1;

        private final int[] gains = new int[MOST_MATTERS * TURNS];
        private final int[] passes = new int[MOST_MATTERS * TURNS];
        private final int[] mosts = new int[(1 << MOST_MATTERS) * TURNS];

        /** How a VOTE on the MATTER goes behind so many others. */
        void put(int matter, int gone, int how, int worth) {
            gains[matter * TURNS + gone] = how == CARRIED ? worth : 0;
            passes[matter * TURNS + gone] = how == TIED ? 0 : 1;
        }

        void weigh(int set) {
            int size = Integer.bitCount(set);
            for (int rest = 1; rest <= set && rest < 1 << MOST_MATTERS; rest++) {
                if ((rest & ~set) != 0) continue;
                for (int gone = 0; gone <= size - Integer.bitCount(rest); gone++) {
                    mosts[rest * TURNS + gone] = mostWith(rest, gone);
                }
            }
        }

        private int mostWith(int rest, int gone) {
            int most = 0;
            for (int m = 0; m < MOST_MATTERS; m++) {
                if ((rest >> m & 1) == 1) most = Math.max(most, worthFrom(m, rest, gone));
            }
            return most;
        }

        /** The most that can be had of the rest if the MATTER comes first. */
        private int worthFrom(int matter, int rest, int gone) {
            int here = matter * TURNS + gone;
            return gains[here] + mosts[(rest & ~(1 << matter)) * TURNS + gone + passes[here]];
        }

        int mostOf(int set) {
            return mosts[set * TURNS];
        }

        /** The k-th MATTER of the best order; taking the least that loses nothing makes it the first as a row. */
        int pick(int set, int k) {
            int rest = set;
            int gone = 0;
            for (int place = 0; place <= k; place++) {
                int first = firstOf(rest, gone);
                if (first == NOT_ANY || place == k) return first;
                gone += passes[first * TURNS + gone];
                rest &= ~(1 << first);
            }
            return NOT_ANY;
        }

        private int firstOf(int rest, int gone) {
            for (int m = 0; m < MOST_MATTERS; m++) {
                if ((rest >> m & 1) == 1 && worthFrom(m, rest, gone) == mosts[rest * TURNS + gone]) return m;
            }
            return NOT_ANY;
        }
    }

    /** The BODIES of all KINDS, run for one of the PEOPLE. */
    private static final class Acts {
        static final int ACTS = 3;
        private static final int RISES = 0, SITS = 1, TELLS = 2, NO_BODY = 0, MOST_DEPTH = 40;
        /** Of each KIND the numbers of its rises, sits and tells. */
        private static final int[] BODIES = {
            10, 11, 12,
            NO_BODY, 20, NO_BODY,
            30, NO_BODY, NO_BODY,
            NO_BODY, NO_BODY, 40,
            50, 51, NO_BODY,
            NO_BODY, NO_BODY, 60,
            71, 70, NO_BODY};

        int ran = 0;
        final int[] trace = new int[20];
        private int person = 0;
        private int kind = VOICE;
        private int v = 0;

        int begin(int ofPerson, int ofKind, int number, int act, int x) {
            person = ofPerson;
            kind = ofKind;
            v = number;
            return perform(ofKind, act, x, 0);
        }

        /** The act's body of the KIND, or of the next one above that has one. */
        private int perform(int from, int act, int x, int depth) {
            int holder = holderOf(from, act);
            if (holder < 0 || depth > MOST_DEPTH) return 0;
            return runBody(BODIES[holder * ACTS + act], ABOVE[holder], x, depth + 1);
        }

        private int runBody(int body, int above, int x, int depth) {
            note(body);
            switch (body) {
                case 10: return x + person;
                case 11: return perform(kind, RISES, x, depth) - v;
                case 12: return perform(kind, SITS, x, depth) * 2;
                case 20: return perform(above, SITS, x, depth) ^ 6;
                case 30: return perform(above, RISES, x * 3, depth);
                case 40: return perform(above, TELLS, x, depth) + perform(kind, SITS, 1, depth);
                case 50: return -perform(above, RISES, x, depth);
                case 51: return perform(above, SITS, x + 1, depth);
                case 60: return perform(above, TELLS, x - person, depth);
                case 70: return perform(above, SITS, x, depth) + perform(above, RISES, 2, depth);
                case 71: return perform(above, RISES, x, depth) ^ v;
                default: return 0;
            }
        }

        private static int holderOf(int from, int act) {
            int holder = from;
            for (int steps = 0; steps < KINDS && holder >= 0; steps++) {
                if (BODIES[holder * ACTS + act] != NO_BODY) return holder;
                holder = ABOVE[holder];
            }
            return -1;
        }

        private void note(int body) {
            if (ran < trace.length) trace[ran] = body;
            ran++;
        }
    }

    /** TAPES; all items stand in one row, so that none is made again when a TAPE becomes another sort. */
    private static final class Tapes {
        static final int TAPES = 6, MOST_ITEMS = 60;
        static final int NO_SORT = -1, BYTES = 0, SHORTS = 1, INTS = 2, LONGS = 3, BOOLEANS = 4, SORTS = 5;

        final int[] sorts = {NO_SORT, NO_SORT, NO_SORT, NO_SORT, NO_SORT, NO_SORT};
        private final int[] lengths = new int[TAPES];
        private final long[] items = new long[TAPES * MOST_ITEMS];

        static boolean isTape(int tape) {
            return tape >= 0 && tape < TAPES;
        }

        boolean holds(int tape) {
            return sorts[tape] != NO_SORT;
        }

        boolean hasPlace(int tape, long i) {
            return i >= 0 && i < lengths[tape];
        }

        boolean hasPlaces(int tape, int i, int n) {
            return n >= 0 && i >= 0 && (long) i + n <= lengths[tape];
        }

        void empty(int tape) {
            sorts[tape] = NO_SORT;
            lengths[tape] = 0;
        }

        void lay(int tape, int sort, int n) {
            sorts[tape] = sort;
            lengths[tape] = n;
            for (int i = 0; i < n; i++) items[tape * MOST_ITEMS + i] = 0;
        }

        long get(int tape, int i) {
            return items[tape * MOST_ITEMS + i];
        }

        void set(int tape, int i, long v) {
            items[tape * MOST_ITEMS + i] = cut(sorts[tape], v);
        }

        void move(int tape, int i, int other, int j, int n) {
            System.arraycopy(items, tape * MOST_ITEMS + i, items, other * MOST_ITEMS + j, n);
        }

        private static long cut(int sort, long v) {
            switch (sort) {
                case BYTES: return (byte) v;
                case SHORTS: return (short) v;
                case INTS: return (int) v;
                case BOOLEANS: return v == 0 ? 0 : 1;
                default: return v;
            }
        }
    }
}
