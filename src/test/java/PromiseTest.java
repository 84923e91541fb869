/** Each promise of the document by calls whose answers were worked out by hand. */
public final class PromiseTest {
    private static final int NOT_ANY = -5, NOTHING = -11, CAST = -12, PLACE = -13, SIZE = -14, NO_LIKE = -1001;
    private static final int LEAST = Integer.MIN_VALUE, GREATEST = Integer.MAX_VALUE;
    private static final Check check = new Check();

    private static int promise = 0;
    private static SeatOn x;

    private PromiseTest() { }

    public static void main(String[] args) {
        begins(1); newObject();
        begins(2); seats();
        begins(3); seat();
        begins(4); person();
        begins(5); of();
        begins(6); who();
        begins(7); matter();
        begins(8); at();
        begins(9); feed();
        begins(10); house(); faults(); limitsOfHouses(); housesThatAreRead();
        begins(11); told();
        begins(12); like();
        begins(13); says(); saysOfStubborn(); saysOfSided(); saysOfDeaf();
        begins(14); vote(); voteTied(); voteVetoed(); voteAtTheEnd();
        begins(15); idle();
        begins(16); would();
        begins(17); soon();
        begins(18); order(); orderByTurns();
        begins(19); hold();
        begins(20); decides();
        begins(21); power();
        begins(22); meet();
        begins(23); wheels();
        begins(24); up();
        begins(25); bestSeat();
        begins(26); see();
        begins(27); stood();
        begins(28); odds();
        begins(29); mean();
        begins(30); book();
        begins(31); looked();
        begins(32); judge();
        begins(33); image();
        begins(34); undo();
        begins(35); act();
        begins(36); trace();
        begins(37); taken();
        begins(38); count();
        begins(39); tape();
        begins(40); item();
        begins(41); read();
        begins(42); shift();
        check.end();
    }

    private static void begins(int number) {
        promise = number;
        fresh();
    }

    private static void fresh() {
        x = new SeatOn();
    }

    private static void due(String call, long got, long want) {
        check.due("promise " + promise + ": " + call, got, want);
    }

    private static void write(String text) {
        for (int i = 0; i < text.length(); i++) x.feed(text.charAt(i));
    }

    private static int houseOf(String text) {
        write(text);
        return x.house();
    }

    private static void dueFault(String text, int place) {
        due("house() of " + text, houseOf(text), -10 - place);
    }

    /** Idle VOTES, so many that one call could not tell them. */
    private static void idleTo(int turn) {
        for (int left = turn - x.told(1); left > 0; left -= 60) x.idle(Math.min(left, 60));
    }

    private static void newObject() {
        due("told(0)", x.told(0), 5);
        due("told(1)", x.told(1), 0);
        due("told(2)", x.told(2), 0);
        for (int s = 0; s < 5; s++) {
            due("told(10 + s)", x.told(10 + s), 1);
            due("told(20 + s)", x.told(20 + s), 0);
            due("told(30 + s)", x.told(30 + s), 0);
            due("who(s)", x.who(s), NOT_ANY);
        }
        for (int what = 0; what < 7; what++) due("count", x.count(what), 0);
        for (int tape = 0; tape < 6; tape++) due("item", x.item(tape, 0, 1), NOTHING);
        due("undo", x.undo(), SeatOn.STATE);
        due("trace", x.trace(0), SeatOn.NONE);
        due("seats(7)", x.seats(7), 5);
        for (int s = 5; s < 7; s++) due("told(10 + s)", x.told(10 + s), 1);
    }

    private static void seats() {
        for (int n : new int[]{LEAST, -1, 0, 1, 8, GREATEST}) due("seats(" + n + ")", x.seats(n), SeatOn.BAD);
        due("told(0)", x.told(0), 5);
        due("seats(2)", x.seats(2), 5);
        due("seats(7)", x.seats(7), 2);
        due("seat(6, 0, 3)", x.seat(6, 0, 3), 1);
        due("seat(6, 1, 1)", x.seat(6, 1, 1), 0);
        due("seats(6)", x.seats(6), 7);
        due("told(16)", x.told(16), SeatOn.NONE);
        due("seat(6, 0, 2)", x.seat(6, 0, 2), SeatOn.NONE);
        due("seats(7)", x.seats(7), 6);
        due("told(16)", x.told(16), 3);
        due("told(26)", x.told(26), 1);
        for (int p = 0; p < 3; p++) x.person(0, 0);
        due("seats(2)", x.seats(2), SeatOn.STATE);
        due("seats(1)", x.seats(1), SeatOn.BAD);
        due("seats(3)", x.seats(3), 7);
        due("seats(3)", x.seats(3), 3);
        x.idle(4);
        due("of(2, 2)", x.of(2, 2), 0);
        due("seats(4)", x.seats(4), 3);
        due("of(2, 2)", x.of(2, 2), 2);
    }

    private static void seat() {
        due("seat(0, 0, 3)", x.seat(0, 0, 3), 1);
        due("seat(0, 0, 0)", x.seat(0, 0, 0), 3);
        due("told(10)", x.told(10), 0);
        due("seat(4, 1, 1)", x.seat(4, 1, 1), 0);
        due("seat(4, 1, 0)", x.seat(4, 1, 0), 1);
        due("seat(4, 2, 1)", x.seat(4, 2, 1), 0);
        due("seat(4, 2, 1)", x.seat(4, 2, 1), 1);
        due("told(24)", x.told(24), 0);
        due("told(34)", x.told(34), 1);
        for (int s : new int[]{-1, 5, 7, LEAST, GREATEST}) due("seat(" + s + ", 0, 1)", x.seat(s, 0, 1), SeatOn.NONE);
        for (int w : new int[]{-1, 3, LEAST, GREATEST}) due("seat(0, " + w + ", 9)", x.seat(0, w, 9), SeatOn.NONE);
        for (int n : new int[]{-1, 4, LEAST, GREATEST}) due("seat(0, 0, " + n + ")", x.seat(0, 0, n), SeatOn.BAD);
        for (int n : new int[]{-1, 2, 3}) due("seat(0, 1, " + n + ")", x.seat(0, 1, n), SeatOn.BAD);
        for (int n : new int[]{-1, 2, 3}) due("seat(0, 2, " + n + ")", x.seat(0, 2, n), SeatOn.BAD);
        due("told(10)", x.told(10), 0);
    }

    private static void person() {
        due("person(7, 0)", x.person(7, 0), SeatOn.NONE);
        due("person(-1, 10)", x.person(-1, 10), SeatOn.NONE);
        due("person(0, 10)", x.person(0, 10), SeatOn.BAD);
        due("person(0, -1)", x.person(0, -1), SeatOn.BAD);
        due("count(0)", x.count(0), 0);
        for (int p = 0; p < 5; p++) due("person(p, p)", x.person(p, p), p);
        due("person(5, 5)", x.person(5, 5), SeatOn.FULL);
        due("person(7, 5)", x.person(7, 5), SeatOn.NONE);
        due("person(5, 10)", x.person(5, 10), SeatOn.BAD);
        x.seats(7);
        due("person(5, 9)", x.person(5, 9), 5);
        due("person(6, 0)", x.person(6, 0), 6);
        due("person(0, 0)", x.person(0, 0), SeatOn.FULL);
    }

    private static void of() {
        x.person(6, 9);
        x.person(3, 0);
        due("of(0, 0)", x.of(0, 0), 6);
        due("of(0, 1)", x.of(0, 1), 9);
        due("of(0, 2)", x.of(0, 2), 0);
        due("of(1, 0)", x.of(1, 0), 3);
        due("of(1, 1)", x.of(1, 1), 0);
        due("of(1, 2)", x.of(1, 2), 1);
        x.idle(3);
        due("of(1, 2)", x.of(1, 2), 4);
        x.idle(1);
        due("of(1, 2)", x.of(1, 2), 0);
        for (int p : new int[]{-1, 2, LEAST, GREATEST}) due("of(" + p + ", 0)", x.of(p, 0), SeatOn.NONE);
        for (int w : new int[]{-1, 3, LEAST, GREATEST}) due("of(0, " + w + ")", x.of(0, w), SeatOn.NONE);
    }

    private static void who() {
        x.person(0, 0);
        x.person(0, 0);
        due("who(0)", x.who(0), 0);
        due("who(1)", x.who(1), 1);
        due("who(2)", x.who(2), NOT_ANY);
        x.idle(4);
        due("who(4)", x.who(4), 0);
        due("who(0)", x.who(0), 1);
        due("who(1)", x.who(1), NOT_ANY);
        for (int s : new int[]{-1, 5, LEAST, GREATEST}) due("who(" + s + ")", x.who(s), SeatOn.NONE);
    }

    private static void matter() {
        due("matter(50, 10, 0)", x.matter(50, 10, 0), SeatOn.NONE);
        due("matter(0, 10, -2)", x.matter(0, 10, -2), SeatOn.NONE);
        due("matter(0, 10, -1)", x.matter(0, 10, -1), SeatOn.BAD);
        due("matter(101, 10, -1)", x.matter(101, 10, -1), SeatOn.BAD);
        due("matter(1, -1, -1)", x.matter(1, -1, -1), SeatOn.BAD);
        due("matter(1, 100, -1)", x.matter(1, 100, -1), SeatOn.BAD);
        due("count(1)", x.count(1), 0);
        x.person(0, 0);
        due("matter(1, 0, 0)", x.matter(1, 0, 0), 0);
        for (int m = 1; m < 6; m++) due("matter(100, 99, -1)", x.matter(100, 99, -1), m);
        due("matter(100, 99, -1)", x.matter(100, 99, -1), SeatOn.FULL);
        due("matter(101, 99, -1)", x.matter(101, 99, -1), SeatOn.BAD);
        due("matter(101, 99, 1)", x.matter(101, 99, 1), SeatOn.NONE);
    }

    private static void at() {
        x.person(1, 0);
        x.matter(37, 42, 0);
        x.matter(100, 0, -1);
        due("at(0, 0)", x.at(0, 0), 37);
        due("at(0, 1)", x.at(0, 1), 42);
        due("at(0, 2)", x.at(0, 2), 0);
        due("at(0, 3)", x.at(0, 3), 0);
        due("at(1, 2)", x.at(1, 2), NOT_ANY);
        due("vote(0)", x.vote(0), 1);
        due("at(0, 3)", x.at(0, 3), 1);
        due("at(1, 3)", x.at(1, 3), 0);
        for (int m : new int[]{-1, 2, LEAST, GREATEST}) due("at(" + m + ", 0)", x.at(m, 0), SeatOn.NONE);
        for (int w : new int[]{-1, 4, LEAST, GREATEST}) due("at(0, " + w + ")", x.at(0, w), SeatOn.NONE);
    }

    private static void feed() {
        for (int s : new int[]{-1, 128, LEAST, GREATEST}) due("feed(" + s + ")", x.feed(s), SeatOn.BAD);
        due("count(5)", x.count(5), 0);
        for (int i = 1; i <= 100; i++) due("feed", x.feed(i % 2 == 0 ? 0 : 127), i);
        due("feed(0)", x.feed(0), SeatOn.FULL);
        due("feed(128)", x.feed(128), SeatOn.BAD);
        due("count(5)", x.count(5), 100);
        due("house()", x.house(), -10);
        due("feed(108)", x.feed(108), 1);
    }

    private static void house() {
        dueFault("", 0);
        due("house()", houseOf("tie 5"), 0);
        due("count(5)", x.count(5), 0);
        due("told(2)", x.told(2), 5);
        dueFault("tie 6;", 6);
        due("count(5)", x.count(5), 0);
        due("told(2)", x.told(2), 5);
        due("count(2)", x.count(2), 1);
        due("house()", houseOf("like 1 p=0"), 1);
        due("told(2)", x.told(2), 0);
        for (int h = 2; h < 6; h++) due("house()", houseOf("tie 1" + h), h);
        due("told(2)", x.told(2), 15);
        write("tie 3");
        due("house()", x.house(), SeatOn.FULL);
        due("count(5)", x.count(5), 5);
        due("count(2)", x.count(2), 6);
        due("told(2)", x.told(2), 15);
        due("feed(59)", x.feed(59), 6);
    }

    private static void faults() {
        fresh();
        dueFault("x", 0);
        dueFault(" like 1 p=1", 0);
        dueFault("Like 1 p=1", 0);
        dueFault("l", 1);
        dueFault("la", 1);
        dueFault("lik", 3);
        dueFault("like", 4);
        dueFault("like1 p=1", 4);
        dueFault("like  1 p=1", 5);
        dueFault("like p=1", 5);
        dueFault("like 1", 6);
        dueFault("like 1;", 6);
        dueFault("like 1p=1", 6);
        dueFault("like 100 p=1", 7);
        dueFault("like 1 ", 7);
        dueFault("like 1  p=1", 7);
        dueFault("like 1 p", 8);
        dueFault("like 1 p1", 8);
        dueFault("like 1 p=", 9);
        dueFault("like 1 p=-1", 9);
        dueFault("like 1 p=123", 11);
        dueFault("like 1 p=1 ", 10);
        dueFault("like 1 p=1)", 10);
        dueFault("like 1 p=1&", 11);
        dueFault("like 1 p=1&|", 11);
        dueFault("like 1 p=1&&p=2", 11);
        dueFault("like 1 p=1!p=2", 10);
        dueFault("like 1 ()", 8);
        dueFault("like 1 (p=1", 11);
        dueFault("like 1 (p=1;", 11);
        dueFault("like 1 !", 8);
        dueFault("like 1 x=1", 7);
        dueFault("like 1 p==1", 9);
        dueFault("like 1 p<=1", 9);
        dueFault("loa", 3);
        dueFault("loathe 1 p=1", 5);
        dueFault("loath 1 p=1;;", 12);
        dueFault("t", 1);
        dueFault("tie", 3);
        dueFault("tie ", 4);
        dueFault("tie p", 4);
        dueFault("tie 123", 6);
        dueFault("tie 1 ", 5);
        dueFault("tie 1;tie 2;", 12);
        due("count(2)", x.count(2), 0);
    }

    private static void limitsOfHouses() {
        fresh();
        dueFault("like 1 (((((p=1)))))", 11);
        dueFault("like 1 !!!!!p=1", 11);
        dueFault("like 1 !(!(!p=1))", 11);
        dueFault("like 1 ((((p=1&!p=2))))", 15);
        dueFault("like 1 !(!(p=1&!(p=2)))", 15);
        fresh();
        due("house()", houseOf("like 1 ((((p=1))))&!!!!p=2"), 0);
        String ten = "tie 1;tie 2;tie 3;tie 4;tie 5;tie 6;tie 7;tie 8;tie 9;tie 10";
        due("house()", houseOf(ten), 1);
        due("told(2)", x.told(2), 10);
        dueFault(ten + ";", 60);
        dueFault(ten + ";tie 11", 60);
        String hundred = "like 01 p=1|p=2|p=3|p=4|p=5|p=6|p=7|p=8|p=9|p=1|p=2|p=3|p=4|p=5|p=6|p=7|p=8|p=9|p=1|p=2|p=3|p=4|p=05";
        due("a text's length", hundred.length(), 100);
        fresh();
        due("house()", houseOf(hundred), 0);
        dueFault(hundred.substring(0, 98) + "|", 98);
        dueFault(hundred.substring(0, 99) + "|", 100);
    }

    private static void housesThatAreRead() {
        fresh();
        x.person(0, 0);
        x.person(2, 0);
        x.matter(50, 0, -1);
        due("house()", houseOf("like 1 p=0|p=1&s=0"), 0);
        due("like(0, 0)", x.like(0, 0), 1);
        due("like(1, 0)", x.like(1, 0), 0);
        due("house()", houseOf("like 1 (p=0|p=1)&s=1"), 1);
        due("like(0, 0)", x.like(0, 0), 0);
        due("like(1, 0)", x.like(1, 0), 1);
        due("house()", houseOf("like 1 !p=0&s=0;loath 2 !(p=0&s=0)"), 2);
        due("like(0, 0)", x.like(0, 0), 0);
        due("like(1, 0)", x.like(1, 0), -2);
        due("house()", houseOf("like 1 !!p=1;like 10 !(!p=1|p=0)"), 3);
        due("like(0, 0)", x.like(0, 0), 0);
        due("like(1, 0)", x.like(1, 0), 11);
        due("house()", houseOf("like 1 p=0&k=0|k=2&p=1;tie 0;like 20 p=0&k=2|p=1&k=0;tie 07"), 4);
        due("like(0, 0)", x.like(0, 0), 1);
        due("like(1, 0)", x.like(1, 0), 1);
        due("told(2)", x.told(2), 7);
        due("house()", houseOf("like 1 p=0&!p<0;like 2 p<0|p=1;like 4 !(p<0|p=1)"), 5);
        due("like(0, 0)", x.like(0, 0), 1 + 4);
        due("like(1, 0)", x.like(1, 0), 2);
    }

    private static void told() {
        x.seats(3);
        x.seat(0, 0, 2);
        x.seat(1, 1, 1);
        x.seat(2, 2, 1);
        x.idle(9);
        due("told(0)", x.told(0), 3);
        due("told(1)", x.told(1), 9);
        due("told(2)", x.told(2), 0);
        due("house()", houseOf("tie 4;tie 9"), 0);
        due("told(2)", x.told(2), 9);
        int[] want = {2, 1, 1, 0, 1, 0, 0, 0, 1};
        for (int i = 0; i < 9; i++) due("told of seats", x.told(10 * (i / 3 + 1) + i % 3), want[i]);
        for (int w : new int[]{-1, 3, 9, 13, 17, 19, 23, 33, 39, 40, -10, LEAST, GREATEST}) {
            due("told(" + w + ")", x.told(w), SeatOn.NONE);
        }
    }

    private static void like() {
        x.person(0, 0);
        x.person(4, 3);
        x.matter(50, 0, -1);
        x.matter(50, 0, -1);
        due("like(0, 0)", x.like(0, 0), 0);
        for (int p : new int[]{-1, 2, LEAST, GREATEST}) due("like(" + p + ", 0)", x.like(p, 0), NO_LIKE);
        for (int m : new int[]{-1, 2, LEAST, GREATEST}) due("like(0, " + m + ")", x.like(0, m), NO_LIKE);
        due("house()", houseOf("like 1 p=1;like 2 s>0;like 4 k=4;like 8 m=1;loath 16 t<2;like 32 w>1"), 0);
        due("like(0, 0)", x.like(0, 0), -16);
        due("like(1, 0)", x.like(1, 0), 1 + 2 + 4 - 16);
        due("like(1, 1)", x.like(1, 1), 1 + 2 + 4 + 8 - 16);
        x.idle(2);
        due("like(0, 0)", x.like(0, 0), 2);
        x.seat(2, 0, 2);
        due("like(0, 0)", x.like(0, 0), 2 + 32);
        due("like(1, 0)", x.like(1, 0), 1 + 2 + 4);
        idleTo(59);
        due("house()", houseOf("like 1 t=59;like 2 t=0;like 4 t<2"), 1);
        due("like(0, 0)", x.like(0, 0), 1);
        x.idle(1);
        due("like(0, 0)", x.like(0, 0), 2 + 4);
        x.idle(1);
        due("like(0, 0)", x.like(0, 0), 4);
        String most = "like 99 p<9";
        due("house()", houseOf(most + ";" + most + ";" + most + ";" + most), 2);
        due("like(1, 1)", x.like(1, 1), 4 * 99);
    }

    private static void says() {
        due("says(0, 0)", x.says(0, 0), NO_LIKE);
        x.person(0, 0);
        x.person(1, 0);
        x.person(2, 0);
        x.person(3, 2);
        due("says(0, 0)", x.says(0, 0), NO_LIKE);
        x.matter(50, 0, 1);
        x.matter(50, 0, 0);
        x.matter(50, 0, -1);
        due("house()", houseOf("loath 5 m<2;like 5 m=2"), 0);
        due("says(0, 0)", x.says(0, 0), -1);
        due("says(0, 1)", x.says(0, 1), -1);
        due("says(0, 2)", x.says(0, 2), 1);
        due("says(1, 0)", x.says(1, 0), 1);
        due("says(1, 1)", x.says(1, 1), -1);
        due("says(2, 1)", x.says(2, 1), -1);
        x.seat(2, 0, 0);
        due("says(2, 1)", x.says(2, 1), 0);
        due("says(2, 2)", x.says(2, 2), 0);
        due("says(3, 0)", x.says(3, 0), 0);
        x.idle(1);
        due("says(2, 2)", x.says(2, 2), 1);
        due("says(3, 0)", x.says(3, 0), -1);
        due("says(3, 2)", x.says(3, 2), 1);
        x.idle(3);
        due("says(3, 0)", x.says(3, 0), 0);
        due("house()", houseOf("like 5 m=0;loath 5 m=0"), 1);
        due("says(0, 0)", x.says(0, 0), 0);
        for (int p : new int[]{-1, 4, LEAST, GREATEST}) due("says(" + p + ", 0)", x.says(p, 0), NO_LIKE);
        for (int m : new int[]{-1, 3, LEAST, GREATEST}) due("says(0, " + m + ")", x.says(0, m), NO_LIKE);
    }

    private static void saysOfStubborn() {
        fresh();
        x.person(4, 0);
        x.person(1, 0);
        x.matter(50, 0, 0);
        x.matter(50, 0, -1);
        x.matter(50, 0, 1);
        due("house()", houseOf("like 1 m=1;loath 1 m=0"), 0);
        due("says(0, 0)", x.says(0, 0), 1);
        due("says(0, 1)", x.says(0, 1), 1);
        due("says(0, 2)", x.says(0, 2), 0);
        x.seat(0, 1, 1);
        due("says(0, 0)", x.says(0, 0), 1);
        due("says(0, 1)", x.says(0, 1), -1);
        due("says(0, 2)", x.says(0, 2), -1);
        x.idle(4);
        due("says(0, 1)", x.says(0, 1), 1);
        due("says(1, 1)", x.says(1, 1), 1);
    }

    private static void saysOfSided() {
        fresh();
        x.seats(3);
        x.person(5, 0);
        x.person(1, 0);
        x.matter(50, 0, 1);
        due("house()", houseOf("like 2 p=0&t<1;loath 3 p=1"), 0);
        due("says(0, 0)", x.says(0, 0), 1);
        x.seat(0, 0, 0);
        due("says(0, 0)", x.says(0, 0), -1);
        due("says(1, 0)", x.says(1, 0), 1);
        x.idle(1);
        due("says(0, 0)", x.says(0, 0), -1);
        due("house()", houseOf("like 3 p=1"), 1);
        due("says(0, 0)", x.says(0, 0), 1);
        x.idle(1);
        due("of(0, 2)", x.of(0, 2), 2);
        due("says(0, 0)", x.says(0, 0), 1);
        fresh();
        x.person(5, 0);
        x.matter(50, 0, -1);
        due("house()", houseOf("like 3 p=1;like 1 w=0"), 0);
        due("says(0, 0)", x.says(0, 0), 0);
        x.seat(0, 0, 0);
        due("says(0, 0)", x.says(0, 0), 0);
    }

    private static void saysOfDeaf() {
        fresh();
        x.person(6, 7);
        x.matter(50, 0, 0);
        x.idle(1);
        due("house()", houseOf("like 1 m=0;loath 1 m=1;like 2 m=3"), 0);
        due("says(0, 0)", x.says(0, 0), 1);
        x.matter(50, 0, -1);
        due("says(0, 0)", x.says(0, 0), -1);
        due("says(0, 1)", x.says(0, 1), -1);
        due("like(0, 0)", x.like(0, 0), 1);
        x.matter(50, 0, -1);
        due("says(0, 2)", x.says(0, 2), -1);
        x.matter(50, 0, -1);
        due("says(0, 0)", x.says(0, 0), 1);
        x.idle(8);
        due("says(0, 0)", x.says(0, 0), 0);
    }

    private static void vote() {
        due("vote(0)", x.vote(0), SeatOn.NONE);
        for (int p = 0; p < 4; p++) x.person(0, 0);
        x.matter(75, 0, -1);
        x.matter(76, 0, -1);
        x.matter(100, 0, -1);
        x.matter(1, 0, -1);
        due("house()", houseOf("like 1 p<3;loath 1 p=3&m<2;loath 5 m=3"), 0);
        for (int m : new int[]{-1, 4, LEAST, GREATEST}) due("vote(" + m + ")", x.vote(m), SeatOn.NONE);
        due("vote(1)", x.vote(1), 0);
        due("told(1)", x.told(1), 1);
        due("at(1, 3)", x.at(1, 3), 0);
        due("vote(0)", x.vote(0), 1);
        due("told(1)", x.told(1), 2);
        due("at(0, 3)", x.at(0, 3), 1);
        due("vote(0)", x.vote(0), SeatOn.STATE);
        due("told(1)", x.told(1), 2);
        due("vote(2)", x.vote(2), 1);
        due("vote(3)", x.vote(3), 0);
        due("vote(1)", x.vote(1), 0);
        due("told(1)", x.told(1), 5);
    }

    private static void voteTied() {
        fresh();
        x.person(0, 0);
        x.person(0, 0);
        x.person(0, 0);
        for (int m = 0; m < 6; m++) x.matter(100, 0, -1);
        due("house()", houseOf("like 1 p=0;loath 1 p=1"), 0);
        due("vote(0)", x.vote(0), 2);
        due("told(1)", x.told(1), 0);
        due("at(0, 3)", x.at(0, 3), 0);
        x.seat(2, 2, 1);
        x.seat(3, 2, 1);
        due("vote(0)", x.vote(0), 2);
        x.seat(1, 2, 1);
        due("vote(0)", x.vote(0), 0);
        due("told(1)", x.told(1), 1);
        due("vote(0)", x.vote(0), 1);
        due("told(1)", x.told(1), 2);
        due("who(2)", x.who(2), 0);
        due("house()", houseOf("like 1 p=0;loath 1 p=1;tie 1"), 1);
        due("vote(1)", x.vote(1), 1);
        due("who(3)", x.who(3), 0);
        due("vote(2)", x.vote(2), 1);
        due("who(4)", x.who(4), 0);
        due("who(0)", x.who(0), 1);
        due("vote(3)", x.vote(3), 1);
        due("who(1)", x.who(1), 1);
        due("vote(4)", x.vote(4), 0);
        x.idle(3);
        x.seat(4, 0, 3);
        due("who(4)", x.who(4), 0);
        due("vote(4)", x.vote(4), 0);
        due("who(0)", x.who(0), 0);
        x.seat(0, 2, 1);
        due("vote(4)", x.vote(4), 1);
    }

    private static void voteVetoed() {
        fresh();
        for (int p = 0; p < 3; p++) x.person(0, 0);
        x.matter(1, 0, -1);
        due("house()", houseOf("like 1 p>0;loath 1 p=0;tie 1"), 0);
        x.seat(0, 1, 1);
        due("vote(0)", x.vote(0), 0);
        due("told(1)", x.told(1), 1);
        x.seat(1, 1, 1);
        x.seat(1, 0, 0);
        due("vote(0)", x.vote(0), 0);
        x.seat(2, 0, 0);
        x.seat(3, 1, 1);
        due("vote(0)", x.vote(0), 1);
    }

    private static void voteAtTheEnd() {
        fresh();
        x.person(1, 0);
        x.matter(1, 0, 0);
        x.matter(1, 0, 0);
        idleTo(9998);
        due("vote(0)", x.vote(0), 1);
        due("told(1)", x.told(1), 9999);
        due("vote(1)", x.vote(1), SeatOn.STATE);
        due("vote(2)", x.vote(2), SeatOn.NONE);
        due("would(1, 60)", x.would(1, 60), 1);
        due("at(1, 3)", x.at(1, 3), 0);
    }

    private static void idle() {
        for (int n : new int[]{-1, 61, LEAST, GREATEST}) due("idle(" + n + ")", x.idle(n), SeatOn.BAD);
        due("idle(0)", x.idle(0), 0);
        due("idle(60)", x.idle(60), 60);
        due("idle(1)", x.idle(1), 61);
        idleTo(9990);
        due("idle(10)", x.idle(10), SeatOn.STATE);
        due("idle(61)", x.idle(61), SeatOn.BAD);
        due("told(1)", x.told(1), 9990);
        due("idle(9)", x.idle(9), 9999);
        due("idle(0)", x.idle(0), 9999);
        due("idle(1)", x.idle(1), SeatOn.STATE);
    }

    /** One who likes what comes at TURN 3 alone of all below 60. */
    private static void likesAtThree() {
        x.person(0, 0);
        x.matter(50, 0, -1);
        houseOf("like 1 t=3;loath 1 t=4");
    }

    private static void would() {
        likesAtThree();
        due("would(0, 0)", x.would(0, 0), 2);
        due("would(0, 3)", x.would(0, 3), 1);
        due("would(0, 4)", x.would(0, 4), 0);
        due("would(0, 60)", x.would(0, 60), 2);
        due("would(0, -1)", x.would(0, -1), SeatOn.BAD);
        due("would(0, 61)", x.would(0, 61), SeatOn.BAD);
        due("would(1, 61)", x.would(1, 61), SeatOn.NONE);
        due("would(-1, 0)", x.would(-1, 0), SeatOn.NONE);
        due("told(1)", x.told(1), 0);
        x.idle(3);
        due("vote(0)", x.vote(0), 1);
        due("would(0, 0)", x.would(0, 0), 0);
        idleTo(9999);
        due("would(0, 24)", x.would(0, 24), 1);
    }

    private static void soon() {
        likesAtThree();
        due("soon(0)", x.soon(0), 3);
        x.idle(3);
        due("soon(0)", x.soon(0), 0);
        x.idle(1);
        due("soon(0)", x.soon(0), 59);
        due("soon(1)", x.soon(1), SeatOn.NONE);
        due("soon(-1)", x.soon(-1), SeatOn.NONE);
        idleTo(9999);
        due("soon(0)", x.soon(0), 24);
        due("told(1)", x.told(1), 9999);
        due("house()", houseOf("loath 1 t<60"), 1);
        due("soon(0)", x.soon(0), NOT_ANY);
        fresh();
        x.seats(7);
        x.person(0, 0);
        x.matter(50, 0, -1);
        due("house()", houseOf("like 1 t=0&s=4"), 0);
        due("soon(0)", x.soon(0), 60);
        due("house()", houseOf("like 1 t=1&s=5"), 1);
        due("soon(0)", x.soon(0), NOT_ANY);
    }

    private static void order() {
        for (int k : new int[]{-2, 6, LEAST, GREATEST}) due("order(64, " + k + ")", x.order(64, k), SeatOn.NONE);
        due("order(0, -1)", x.order(0, -1), 0);
        due("order(0, 0)", x.order(0, 0), NOT_ANY);
        due("order(1, 0)", x.order(1, 0), SeatOn.BAD);
        x.person(1, 0);
        for (int m = 0; m < 6; m++) x.matter(50, 1 << m, 0);
        due("order(63, -1)", x.order(63, -1), 63);
        for (int k = 0; k < 6; k++) due("order(63, k)", x.order(63, k), k);
        due("order(42, -1)", x.order(42, -1), 42);
        due("order(42, 2)", x.order(42, 2), 5);
        due("order(42, 3)", x.order(42, 3), NOT_ANY);
        for (int set : new int[]{64, -1, LEAST, GREATEST}) due("order(" + set + ", 0)", x.order(set, 0), SeatOn.BAD);
        due("vote(1)", x.vote(1), 1);
        due("order(2, -1)", x.order(2, -1), SeatOn.BAD);
        due("order(61, -1)", x.order(61, -1), 61);
        due("vote(0)", x.vote(0), 1);
        due("order(1, 0)", x.order(1, 0), SeatOn.BAD);
        due("order(62, 0)", x.order(62, 0), SeatOn.BAD);
        due("vote(5)", x.vote(5), 1);
        due("order(32, 0)", x.order(32, 0), SeatOn.BAD);
        due("order(60, 0)", x.order(60, 0), SeatOn.BAD);
        due("order(28, -1)", x.order(28, -1), 28);
        due("told(1)", x.told(1), 3);
        due("at(2, 3)", x.at(2, 3), 0);
    }

    /** 0 is carried at TURN 1 alone, 1 (worth 9) at TURN 2, 2 (worth 5) at 0 and 2; 3 is always tied. */
    private static void orderByTurns() {
        fresh();
        x.person(0, 0);
        x.matter(50, 2, -1);
        x.matter(50, 9, -1);
        x.matter(50, 5, -1);
        x.matter(50, 99, -1);
        String others = "loath 1 m<3&t<60";
        due("house()", houseOf(others + ";like 9 m=0&t=1|m=1&t=2|m=2&(t=0|t=2)"), 0);
        due("order(7, -1)", x.order(7, -1), 16);
        due("order(7, 0)", x.order(7, 0), 2);
        due("order(7, 1)", x.order(7, 1), 0);
        due("order(7, 2)", x.order(7, 2), 1);
        due("order(15, -1)", x.order(15, -1), 16);
        due("order(15, 0)", x.order(15, 0), 2);
        due("order(15, 1)", x.order(15, 1), 0);
        due("order(15, 2)", x.order(15, 2), 1);
        due("order(15, 3)", x.order(15, 3), 3);
        due("order(9, -1)", x.order(9, -1), 0);
        due("order(9, 1)", x.order(9, 1), 3);
        due("order(10, -1)", x.order(10, -1), 0);
        due("order(10, 0)", x.order(10, 0), 1);
        due("order(6, -1)", x.order(6, -1), 5);
        due("order(6, 0)", x.order(6, 0), 2);
        due("order(3, -1)", x.order(3, -1), 2);
        due("order(3, 0)", x.order(3, 0), 1);
        idleTo(9999);
        due("house()", houseOf("like 2 m=0&t=39;like 2 m=1&t=40;loath 1 m<2"), 1);
        due("order(3, -1)", x.order(3, -1), 11);
        due("order(3, 0)", x.order(3, 0), 0);
        due("told(1)", x.told(1), 9999);
    }

    private static void hold() {
        for (int p = 0; p < 3; p++) x.person(0, 0);
        x.person(2, 0);
        x.matter(70, 0, -1);
        x.matter(50, 0, -1);
        due("house()", houseOf("like 1 m=0&p<3;loath 1 m=1"), 0);
        due("hold(0, 0)", x.hold(0, 0), 1);
        due("hold(0, 3)", x.hold(0, 3), 0);
        due("hold(1, 0)", x.hold(1, 0), 0);
        x.seat(3, 1, 1);
        due("hold(0, 3)", x.hold(0, 3), 1);
        x.seat(0, 0, 0);
        due("hold(0, 0)", x.hold(0, 0), 0);
        x.seat(0, 0, 3);
        due("hold(0, 1)", x.hold(0, 1), 0);
        due("hold(0, 0)", x.hold(0, 0), 1);
        for (int m : new int[]{-1, 2, LEAST, GREATEST}) due("hold(" + m + ", 0)", x.hold(m, 0), SeatOn.NONE);
        for (int p : new int[]{-1, 4, LEAST, GREATEST}) due("hold(0, " + p + ")", x.hold(0, p), SeatOn.NONE);
        due("told(1)", x.told(1), 0);
    }

    private static void decides() {
        x.seats(3);
        x.person(1, 0);
        x.person(0, 0);
        x.matter(50, 0, 0);
        x.matter(50, 0, -1);
        due("decides(0, 0)", x.decides(0, 0), 3);
        due("decides(0, 1)", x.decides(0, 1), 0);
        x.seat(1, 0, 0);
        due("decides(0, 0)", x.decides(0, 0), 2);
        due("house()", houseOf("loath 1 p=1"), 0);
        due("decides(0, 0)", x.decides(0, 0), 2);
        due("decides(0, 1)", x.decides(0, 1), 2);
        x.idle(1);
        due("decides(0, 1)", x.decides(0, 1), 2);
        due("decides(1, 0)", x.decides(1, 0), 0);
        due("decides(1, 1)", x.decides(1, 1), 2);
        for (int m : new int[]{-1, 2, LEAST, GREATEST}) due("decides(" + m + ", 0)", x.decides(m, 0), SeatOn.NONE);
        for (int p : new int[]{-1, 2, LEAST, GREATEST}) due("decides(0, " + p + ")", x.decides(0, p), SeatOn.NONE);
        due("told(1)", x.told(1), 1);
    }

    private static void duePower(int person, long above, long below) {
        due("power(" + person + ", 0)", x.power(person, 0), above);
        due("power(" + person + ", 1)", x.power(person, 1), below);
    }

    private static void power() {
        due("power(0, 0)", x.power(0, 0), SeatOn.NO);
        x.person(0, 0);
        duePower(0, 1, 1);
        x.seat(0, 0, 0);
        duePower(0, 0, 1);
        x.person(0, 0);
        x.person(0, 0);
        duePower(0, 0, 1);
        duePower(1, 1, 2);
        x.seat(0, 0, 1);
        duePower(0, 1, 2);
        x.seat(1, 0, 3);
        duePower(0, 0, 1);
        duePower(1, 1, 1);
        x.seat(1, 0, 2);
        duePower(0, 1, 4);
        duePower(1, 3, 4);
        x.idle(1);
        duePower(0, 3, 4);
        for (int p : new int[]{-1, 3, LEAST, GREATEST}) due("power(" + p + ", 0)", x.power(p, 0), SeatOn.NO);
        for (int i : new int[]{-1, 2, LEAST, GREATEST}) due("power(0, " + i + ")", x.power(0, i), SeatOn.NO);
    }

    private static void meet() {
        for (int p = 0; p < 3; p++) x.person(0, 0);
        due("meet(0, 2, 3, 0)", x.meet(0, 2, 3, 0), 3);
        due("meet(0, 2, 0, 2)", x.meet(0, 2, 0, 2), 0);
        due("meet(2, 0, 3, 1)", x.meet(2, 0, 3, 1), 1);
        due("meet(0, 1, 2, 1)", x.meet(0, 1, 2, 1), NOT_ANY);
        due("meet(0, 1, 2, 2)", x.meet(0, 1, 2, 2), NOT_ANY);
        x.idle(4);
        due("meet(0, 2, 3, 0)", x.meet(0, 2, 3, 0), 4);
        due("meet(1, 1, 0, 0)", x.meet(1, 1, 0, 0), SeatOn.BAD);
        due("meet(1, 1, 5, 0)", x.meet(1, 1, 5, 0), SeatOn.NONE);
        due("meet(0, 1, 0, -1)", x.meet(0, 1, 0, -1), SeatOn.NONE);
        due("meet(3, 1, 0, 0)", x.meet(3, 1, 0, 0), SeatOn.NONE);
        due("meet(0, -1, 0, 0)", x.meet(0, -1, 0, 0), SeatOn.NONE);
        due("meet(3, 3, 0, 0)", x.meet(3, 3, 0, 0), SeatOn.NONE);
        due("meet", x.meet(LEAST, GREATEST, LEAST, GREATEST), SeatOn.NONE);
    }

    private static void wheels() {
        due("wheels(3, 5, 2, 4)", x.wheels(3, 5, 2, 4), 14);
        due("wheels(4, 6, 1, 3)", x.wheels(4, 6, 1, 3), 9);
        due("wheels(4, 6, 1, 2)", x.wheels(4, 6, 1, 2), NOT_ANY);
        due("wheels(99, 98, 98, 97)", x.wheels(99, 98, 98, 97), 99 * 98 - 1);
        due("wheels(99, 99, 98, 98)", x.wheels(99, 99, 98, 98), 98);
        due("wheels(2, 2, 0, 0)", x.wheels(2, 2, 0, 0), 0);
        due("wheels(1, 5, 0, 4)", x.wheels(1, 5, 0, 4), SeatOn.BAD);
        due("wheels(100, 5, 0, 4)", x.wheels(100, 5, 0, 4), SeatOn.BAD);
        due("wheels(5, 1, 0, 0)", x.wheels(5, 1, 0, 0), SeatOn.BAD);
        due("wheels(5, 100, 0, 0)", x.wheels(5, 100, 0, 0), SeatOn.BAD);
        due("wheels(3, 5, 3, 4)", x.wheels(3, 5, 3, 4), SeatOn.BAD);
        due("wheels(3, 5, -1, 4)", x.wheels(3, 5, -1, 4), SeatOn.BAD);
        due("wheels(3, 5, 2, 5)", x.wheels(3, 5, 2, 5), SeatOn.BAD);
        due("wheels(3, 5, 2, -1)", x.wheels(3, 5, 2, -1), SeatOn.BAD);
        due("wheels", x.wheels(GREATEST, LEAST, GREATEST, LEAST), SeatOn.BAD);
    }

    private static void up() {
        x.seats(3);
        x.person(0, 0);
        x.person(2, 0);
        x.person(1, 0);
        x.matter(50, 0, 2);
        x.matter(50, 0, 0);
        x.matter(50, 0, -1);
        due("up(0, 0)", x.up(0, 0), 1);
        due("up(1, 0)", x.up(1, 0), 1);
        due("up(2, 0)", x.up(2, 0), 2);
        due("up(0, 1)", x.up(0, 1), 2);
        due("house()", houseOf("like 1 p=1&k=1;loath 1 p=0&k=2;like 5 s=1&p=1&m=2"), 0);
        due("up(0, 2)", x.up(0, 2), 2);
        x.seat(1, 0, 2);
        due("up(0, 2)", x.up(0, 2), 1);
        x.idle(1);
        due("up(0, 2)", x.up(0, 2), 0);
        due("up(1, 2)", x.up(1, 2), 1);
        due("up(2, 2)", x.up(2, 2), 2);
        due("count(0)", x.count(0), 3);
        due("at(0, 2)", x.at(0, 2), 2);
        for (int p : new int[]{-1, 3, LEAST, GREATEST}) due("up(" + p + ", 0)", x.up(p, 0), SeatOn.NONE);
        for (int m : new int[]{-1, 3, LEAST, GREATEST}) due("up(0, " + m + ")", x.up(0, m), SeatOn.NONE);
        fresh();
        x.person(0, 0);
        x.matter(50, 0, -1);
        due("house()", houseOf("tie 1"), 0);
        due("up(0, 0)", x.up(0, 0), 1);
        fresh();
        x.person(0, 0);
        x.person(3, 1);
        x.person(3, 7);
        x.matter(50, 0, -1);
        x.idle(6);
        due("house()", houseOf("like 1 p=1"), 0);
        due("up(0, 0)", x.up(0, 0), 1);
        x.idle(3);
        due("up(0, 0)", x.up(0, 0), 2);
        due("up(2, 0)", x.up(2, 0), 2);
        x.idle(1);
        due("up(2, 0)", x.up(2, 0), 1);
    }

    private static void bestSeat() {
        due("bestSeat(0)", x.bestSeat(0), SeatOn.NONE);
        x.seats(3);
        x.person(0, 0);
        x.matter(50, 0, -1);
        due("bestSeat(0)", x.bestSeat(0), 0);
        due("house()", houseOf("like 1 s=2"), 0);
        due("bestSeat(0)", x.bestSeat(0), 2);
        due("house()", houseOf("loath 1 s<2"), 1);
        due("bestSeat(0)", x.bestSeat(0), 2);
        due("house()", houseOf("like 1 s=1;loath 9 w=2"), 2);
        due("bestSeat(0)", x.bestSeat(0), 0);
        x.seat(1, 0, 3);
        due("house()", houseOf("like 1 w>3"), 3);
        due("bestSeat(0)", x.bestSeat(0), 1);
        due("told(11)", x.told(11), 3);
        due("told(1)", x.told(1), 0);
        due("bestSeat(1)", x.bestSeat(1), SeatOn.NONE);
        due("bestSeat(-1)", x.bestSeat(-1), SeatOn.NONE);
    }

    private static void see() {
        due("see(0, 0)", x.see(0, 0), SeatOn.NONE);
        due("see(-1, 99)", x.see(-1, 99), 0);
        x.person(0, 0);
        for (int i = 1; i <= 8; i++) due("see(0, 4)", x.see(0, 4), i);
        due("see(0, 4)", x.see(0, 4), SeatOn.FULL);
        for (int p : new int[]{-2, 1, LEAST, GREATEST}) due("see(" + p + ", 0)", x.see(p, 0), SeatOn.NONE);
        for (int s : new int[]{-1, 5, LEAST, GREATEST}) due("see(0, " + s + ")", x.see(0, s), SeatOn.NONE);
        due("count(3)", x.count(3), 8);
        due("see(-1, -9)", x.see(-1, -9), 0);
        due("count(3)", x.count(3), 0);
        due("see(0, 0)", x.see(0, 0), 1);
    }

    private static void dueStood(int many, int first, int wrong) {
        due("stood(0)", x.stood(0), many);
        due("stood(1)", x.stood(1), first);
        due("stood(2)", x.stood(2), wrong);
    }

    private static void stood() {
        dueStood(5, 0, NOT_ANY);
        for (int p = 0; p < 3; p++) x.person(0, 0);
        x.see(1, 4);
        dueStood(1, 3, NOT_ANY);
        x.see(0, 4);
        dueStood(1, 3, NOT_ANY);
        x.see(2, 0);
        dueStood(0, NOT_ANY, 2);
        x.see(0, 1);
        dueStood(0, NOT_ANY, 2);
        x.see(-1, 0);
        x.see(0, 0);
        x.see(0, 0);
        dueStood(0, NOT_ANY, 0);
        x.see(0, 0);
        dueStood(0, NOT_ANY, NOT_ANY);
        x.idle(3);
        dueStood(0, NOT_ANY, NOT_ANY);
        x.see(-1, 0);
        x.see(2, 4);
        dueStood(1, 2, NOT_ANY);
        x.seats(3);
        dueStood(0, NOT_ANY, 0);
        for (int w : new int[]{-1, 3, LEAST, GREATEST}) due("stood(" + w + ")", x.stood(w), SeatOn.NONE);
    }

    private static void dueOdds(int matter, long above, long below) {
        due("odds(" + matter + ", 0)", x.odds(matter, 0), above);
        due("odds(" + matter + ", 1)", x.odds(matter, 1), below);
    }

    private static void odds() {
        due("odds(0, 0)", x.odds(0, 0), SeatOn.NO);
        for (int p = 0; p < 3; p++) x.person(0, 0);
        x.matter(50, 0, -1);
        x.matter(100, 0, -1);
        dueOdds(0, 1, 2);
        dueOdds(1, 1, 8);
        x.seat(0, 1, 1);
        dueOdds(0, 3, 8);
        due("house()", houseOf("like 1 p=0"), 0);
        dueOdds(0, 3, 4);
        dueOdds(1, 1, 4);
        due("house()", houseOf("loath 1 p=0"), 1);
        dueOdds(0, 0, 1);
        x.seat(0, 1, 0);
        dueOdds(0, 1, 4);
        due("house()", houseOf("like 1 p<9"), 2);
        dueOdds(0, 1, 1);
        due("house()", houseOf("like 1 p=0;loath 1 p=1;tie 1"), 3);
        dueOdds(0, 1, 2);
        x.seat(2, 0, 0);
        dueOdds(0, 1, 1);
        for (int m : new int[]{-1, 2, LEAST, GREATEST}) due("odds(" + m + ", 0)", x.odds(m, 0), SeatOn.NO);
        for (int i : new int[]{-1, 2, LEAST, GREATEST}) due("odds(0, " + i + ")", x.odds(0, i), SeatOn.NO);
    }

    private static void dueMean(int matter, long above, long below) {
        due("mean(" + matter + ", 0)", x.mean(matter, 0), above);
        due("mean(" + matter + ", 1)", x.mean(matter, 1), below);
    }

    private static void mean() {
        due("mean(0, 0)", x.mean(0, 0), SeatOn.NO);
        x.seats(6);
        x.matter(50, 0, -1);
        dueMean(0, 0, 1);
        x.person(1, 0);
        x.person(0, 0);
        x.matter(50, 0, 0);
        dueMean(0, 0, 1);
        dueMean(1, 1, 1);
        x.seat(5, 0, 3);
        dueMean(1, 4, 3);
        x.idle(5);
        dueMean(1, 4, 3);
        due("house()", houseOf("loath 1 p=1;like 1 s=2"), 0);
        dueMean(0, 1, 6);
        due("told(1)", x.told(1), 5);
        for (int m : new int[]{-1, 2, LEAST, GREATEST}) due("mean(" + m + ", 1)", x.mean(m, 1), SeatOn.NO);
        for (int i : new int[]{-1, 2, LEAST, GREATEST}) due("mean(0, " + i + ")", x.mean(0, i), SeatOn.NO);
    }

    private static void book() {
        due("book(0)", x.book(0), SeatOn.NONE);
        due("book(-1)", x.book(-1), 0);
        x.matter(50, 0, -1);
        x.matter(50, 0, -1);
        for (int told : new int[]{-2, -9, -10, -11, 3, 9, 13, 19, 20, LEAST, GREATEST}) {
            due("book(" + told + ")", x.book(told), SeatOn.NONE);
        }
        for (int i = 1; i <= 12; i++) due("book", x.book(i % 2 * 10 + i % 3), i);
        due("book(0)", x.book(0), SeatOn.FULL);
        due("book(3)", x.book(3), SeatOn.NONE);
        due("count(4)", x.count(4), 12);
        due("book(-1)", x.book(-1), 0);
        due("count(4)", x.count(4), 0);
        due("book(12)", x.book(12), 1);
    }

    private static void looked() {
        due("looked()", x.looked(), NOT_ANY);
        x.person(0, 0);
        for (int m = 0; m < 3; m++) x.matter(50, 0, -1);
        due("house()", houseOf("like 1 m=0&t>0;loath 1 m=1"), 0);
        x.book(2);
        x.book(10);
        due("looked()", x.looked(), NOT_ANY);
        x.book(1);
        due("looked()", x.looked(), NOT_ANY);
        x.book(22);
        due("looked()", x.looked(), NOT_ANY);
        x.book(1);
        due("looked()", x.looked(), 4);
        x.book(10);
        due("looked()", x.looked(), 4);
        due("told(1)", x.told(1), 0);
        due("at(0, 3)", x.at(0, 3), 0);
        x.idle(1);
        due("looked()", x.looked(), 0);
        x.book(-1);
        x.book(11);
        due("looked()", x.looked(), 0);
        x.book(-1);
        x.book(1);
        due("looked()", x.looked(), NOT_ANY);
        due("vote(0)", x.vote(0), 1);
        due("looked()", x.looked(), 0);
        x.book(-1);
        due("looked()", x.looked(), NOT_ANY);
    }

    private static void judge() {
        for (int t : new int[]{-1, 6, LEAST, GREATEST}) due("judge(" + t + ", 0)", x.judge(t, 0), SeatOn.NONE);
        due("judge(0, 0)", x.judge(0, 0), NOT_ANY);
        due("judge(0, -1)", x.judge(0, -1), NOT_ANY);
        x.tape(1, 1, 9);
        due("judge(1, 0)", x.judge(1, 0), CAST);
        for (int p = 0; p < 3; p++) x.person(0, 0);
        due("judge(0, 0)", x.judge(0, 0), 100);
        x.tape(0, 0, 4);
        x.item(0, 1, 4);
        x.item(0, 2, 0);
        x.item(0, 3, 1);
        x.idle(4);
        due("judge(0, 1)", x.judge(0, 1), NOT_ANY);
        due("judge(0, 0)", x.judge(0, 0), 0);
        due("judge(0, -1)", x.judge(0, -1), 100);
        due("judge(0, 4)", x.judge(0, 4), 100);
        due("judge(0, big)", x.judge(0, GREATEST), 100);
        due("judge(0, small)", x.judge(0, LEAST), 100);
        x.item(0, 3, 4);
        due("judge(0, 3)", x.judge(0, 3), 101);
        due("judge(0, 1)", x.judge(0, 1), 2);
        x.item(0, 2, 4);
        x.item(0, 3, 0);
        due("judge(0, 2)", x.judge(0, 2), 102);
        x.item(0, 2, 256 + 4);
        due("judge(0, 2)", x.judge(0, 2), 102);
        x.tape(0, 0, 0);
        due("judge(0, 0)", x.judge(0, 0), 100);
        for (int sort = 1; sort < 5; sort++) {
            x.tape(0, sort, 3);
            due("judge(0, 0)", x.judge(0, 0), CAST);
        }
        x.tape(0, -1, 0);
        due("judge(0, 0)", x.judge(0, 0), 100);
        due("judge(0, 9)", x.judge(0, 9), 100);
    }

    private static void image() {
        due("image()", x.image(), 0);
        x.person(0, 0);
        x.person(0, 0);
        due("image()", x.image(), 2);
        due("count(0)", x.count(0), 2);
        x.person(0, 0);
        due("undo()", x.undo(), 2);
        due("image()", x.image(), 2);
    }

    private static void undo() {
        due("undo()", x.undo(), SeatOn.STATE);
        x.seats(6);
        x.seat(0, 0, 2);
        x.seat(1, 1, 1);
        x.person(1, 3);
        x.matter(30, 7, 0);
        x.matter(40, 8, 0);
        due("house()", houseOf("tie 3"), 0);
        due("vote(0)", x.vote(0), 1);
        x.see(0, 2);
        x.book(11);
        due("image()", x.image(), 1);
        x.seats(4);
        x.seat(0, 0, 3);
        x.seat(1, 1, 0);
        x.seat(2, 2, 1);
        x.person(2, 2);
        due("vote(1)", x.vote(1), 1);
        x.matter(50, 9, -1);
        due("house()", houseOf("tie 4"), 1);
        x.see(-1, 0);
        x.book(-1);
        write("abc");
        x.tape(0, 0, 2);
        x.act(0, 0, 1);
        due("undo()", x.undo(), 1);
        int[] want = {6, 1, 3};
        for (int i = 0; i < 3; i++) due("told(i)", x.told(i), want[i]);
        due("told(10)", x.told(10), 2);
        due("told(21)", x.told(21), 1);
        due("told(32)", x.told(32), 0);
        int[] counts = {1, 2, 2, 1, 1, 3, 1};
        for (int i = 0; i < 7; i++) due("count(" + i + ")", x.count(i), counts[i]);
        due("at(0, 3)", x.at(0, 3), 1);
        due("at(1, 3)", x.at(1, 3), 0);
        due("stood(1)", x.stood(1), 2);
        due("looked()", x.looked(), NOT_ANY);
        due("read(0, 1)", x.read(0, 1), 0);
        due("trace(0)", x.trace(0), 10);
        x.idle(5);
        due("undo()", x.undo(), 1);
        due("told(1)", x.told(1), 1);
        fresh();
        x.image();
        due("house()", houseOf("tie 4"), 0);
        due("undo()", x.undo(), 0);
        due("told(2)", x.told(2), 0);
        due("count(2)", x.count(2), 1);
    }

    private static void dueTrace(int... bodies) {
        due("count(6)", x.count(6), bodies.length);
        for (int i = 0; i < bodies.length; i++) due("trace(" + i + ")", x.trace(i), bodies[i]);
        due("trace(end)", x.trace(bodies.length), SeatOn.NONE);
    }

    private static void dueAct(int person, int act, int xNumber, int want, int... bodies) {
        due("act(" + person + ", " + act + ", " + xNumber + ")", x.act(person, act, xNumber), want);
        dueTrace(bodies);
    }

    private static void act() {
        x.seats(7);
        for (int k = 0; k < 7; k++) x.person(k, k + 2);
        dueAct(0, 0, 5, 5, 10);
        dueAct(0, 1, 5, 3, 11, 10);
        dueAct(0, 2, 5, 6, 12, 11, 10);
        dueAct(1, 0, 5, 6, 10);
        dueAct(1, 1, 5, 3 ^ 6, 20, 11, 10);
        dueAct(1, 2, 5, 10, 12, 20, 11, 10);
        dueAct(2, 0, 5, 17, 30, 10);
        dueAct(2, 1, 5, 13, 11, 30, 10);
        dueAct(2, 2, 5, 26, 12, 11, 30, 10);
        dueAct(3, 0, 5, 8, 10);
        dueAct(3, 1, 5, 3, 11, 10);
        dueAct(3, 2, 5, 6 - 1, 40, 12, 11, 10, 11, 10);
        dueAct(4, 0, 5, -9, 50, 10);
        dueAct(4, 1, 5, (-10 - 6) ^ 6, 51, 20, 11, 50, 10);
        dueAct(4, 2, 5, ((-10 - 6) ^ 6) * 2, 12, 51, 20, 11, 50, 10);
        dueAct(5, 0, 5, 20, 30, 10);
        dueAct(5, 1, 5, 13, 11, 30, 10);
        dueAct(5, 2, 5, (0 + 5 - 7) * 2, 60, 12, 11, 30, 10);
        dueAct(6, 0, 5, 11 ^ 8, 71, 10);
        dueAct(6, 1, 5, (11 ^ 8) - 8 + 8, 70, 11, 71, 10, 10);
        dueAct(6, 2, 5, 3 * 2 + (7 ^ 8), 40, 12, 70, 11, 71, 10, 10, 70, 11, 71, 10, 10);
        dueAct(1, 0, GREATEST, LEAST, 10);
        dueAct(2, 0, 1 << 30, (1 << 30) * 3 + 2, 30, 10);
        for (int p : new int[]{-1, 7, LEAST, GREATEST}) {
            x.act(0, 0, 1);
            dueAct(p, 0, 5, 0);
        }
        for (int a : new int[]{-1, 3, LEAST, GREATEST}) {
            x.act(0, 0, 1);
            dueAct(0, a, 5, 0);
        }
    }

    private static void trace() {
        due("trace(0)", x.trace(0), SeatOn.NONE);
        x.person(6, 0);
        x.act(0, 1, 0);
        dueTrace(70, 11, 71, 10, 10);
        x.act(0, 0, 0);
        dueTrace(71, 10);
        for (int i : new int[]{-1, 2, 19, 20, 21, LEAST, GREATEST}) due("trace(" + i + ")", x.trace(i), SeatOn.NONE);
        x.act(0, 3, 0);
        dueTrace();
    }

    private static void taken() {
        x.seats(7);
        for (int k = 0; k < 7; k++) x.person(k, 0);
        int[] above = {-1, 0, 0, 0, 1, 2, 3};
        for (int p = 0; p < 7; p++) {
            for (int k = 0; k < 7; k++) {
                boolean is = k == p || k == above[p] || k == 0;
                due("taken(" + p + ", " + k + ")", x.taken(p, k), is ? p : CAST);
            }
        }
        for (int k : new int[]{-1, 7, LEAST, GREATEST}) due("taken(9, " + k + ")", x.taken(9, k), SeatOn.BAD);
        for (int p : new int[]{-1, 7, LEAST, GREATEST}) due("taken(" + p + ", 0)", x.taken(p, 0), NOTHING);
    }

    private static void count() {
        x.person(0, 0);
        x.person(0, 0);
        x.matter(50, 0, 0);
        due("house()", houseOf("tie 1"), 0);
        x.see(0, 0);
        x.see(0, 1);
        x.see(0, 2);
        x.book(0);
        x.book(0);
        write("lik");
        x.act(0, 2, 0);
        int[] want = {2, 1, 1, 3, 2, 3, 3};
        for (int i = 0; i < 7; i++) due("count(" + i + ")", x.count(i), want[i]);
        for (int w : new int[]{-1, 7, LEAST, GREATEST}) due("count(" + w + ")", x.count(w), SeatOn.BAD);
    }

    private static void tape() {
        for (int t : new int[]{-1, 6, LEAST, GREATEST}) due("tape(" + t + ", 9, 1)", x.tape(t, 9, 1), SeatOn.NONE);
        for (int s : new int[]{-2, 5, LEAST, GREATEST}) due("tape(0, " + s + ", -1)", x.tape(0, s, -1), SeatOn.BAD);
        due("tape(0, 0, 61)", x.tape(0, 0, 61), SeatOn.BAD);
        due("tape(0, 0, -1)", x.tape(0, 0, -1), SIZE);
        due("tape(0, 0, least)", x.tape(0, 0, LEAST), SIZE);
        due("item(0, 0, 1)", x.item(0, 0, 1), NOTHING);
        due("tape(0, 3, 60)", x.tape(0, 3, 60), 1);
        due("item(0, 59, 7)", x.item(0, 59, 7), 1);
        due("item(0, 0, 8)", x.item(0, 0, 8), 1);
        due("tape(0, 0, -1)", x.tape(0, 0, -1), SIZE);
        due("read(0, 59)", x.read(0, 59), 7);
        due("tape(0, 3, 60)", x.tape(0, 3, 60), 1);
        due("read(0, 59)", x.read(0, 59), 0);
        due("read(0, 0)", x.read(0, 0), 0);
        due("tape(0, 3, 2)", x.tape(0, 3, 2), 1);
        due("read(0, 2)", x.read(0, 2), SeatOn.NO);
        due("tape(0, 4, 0)", x.tape(0, 4, 0), 1);
        due("item(0, 0, 1)", x.item(0, 0, 1), PLACE);
        due("tape(0, -1, -7)", x.tape(0, -1, -7), 1);
        due("item(0, 0, 1)", x.item(0, 0, 1), NOTHING);
        due("tape(0, -1, 99)", x.tape(0, -1, 99), 1);
        due("tape(5, 1, 1)", x.tape(5, 1, 1), 1);
        due("read(5, 0)", x.read(5, 0), 0);
        due("read(4, 0)", x.read(4, 0), SeatOn.NO);
    }

    private static void dueItem(int sort, long v, long want) {
        x.tape(2, sort, 3);
        due("item(2, 1, " + v + ")", x.item(2, 1, v), 1);
        due("read(2, 1)", x.read(2, 1), want);
        due("read(2, 0)", x.read(2, 0), 0);
        due("read(2, 2)", x.read(2, 2), 0);
    }

    private static void item() {
        dueItem(0, 127, 127);
        dueItem(0, 128, -128);
        dueItem(0, -129, 127);
        dueItem(0, 256, 0);
        dueItem(1, 32767, 32767);
        dueItem(1, 32768, -32768);
        dueItem(1, 1L << 40 | 5, 5);
        dueItem(2, GREATEST, GREATEST);
        dueItem(2, 1L << 31, LEAST);
        dueItem(2, Long.MIN_VALUE, 0);
        dueItem(3, Long.MAX_VALUE, Long.MAX_VALUE);
        dueItem(3, -1, -1);
        dueItem(4, 0, 0);
        dueItem(4, 2, 1);
        dueItem(4, 1L << 40, 1);
        dueItem(4, -1, 1);
        for (int t : new int[]{-1, 6, LEAST, GREATEST}) due("item(" + t + ", 0, 1)", x.item(t, 0, 1), SeatOn.NONE);
        for (int i : new int[]{-1, 3, LEAST, GREATEST}) due("item(2, " + i + ", 1)", x.item(2, i, 1), PLACE);
        due("item(0, -1, 1)", x.item(0, -1, 1), NOTHING);
    }

    private static void read() {
        x.tape(0, 3, 2);
        x.item(0, 0, 11);
        x.item(0, 1, -12);
        x.tape(1, 3, 60);
        due("read(0, 0)", x.read(0, 0), 11);
        due("read(0, 1)", x.read(0, 1), -12);
        for (int i : new int[]{-1, 2, 59, 60, LEAST, GREATEST}) due("read(0, " + i + ")", x.read(0, i), SeatOn.NO);
        for (int t : new int[]{-1, 6, LEAST, GREATEST}) due("read(" + t + ", 0)", x.read(t, 0), SeatOn.NO);
        due("read(2, 0)", x.read(2, 0), SeatOn.NO);
    }

    private static void dueRow(int tape, int... want) {
        for (int i = 0; i < want.length; i++) due("read(" + tape + ", " + i + ")", x.read(tape, i), want[i]);
    }

    private static void shift() {
        x.tape(0, 2, 5);
        for (int i = 0; i < 5; i++) x.item(0, i, i + 1);
        due("shift(0, 0, 0, 1, 4)", x.shift(0, 0, 0, 1, 4), 4);
        dueRow(0, 1, 1, 2, 3, 4);
        due("shift(0, 2, 0, 0, 3)", x.shift(0, 2, 0, 0, 3), 3);
        dueRow(0, 2, 3, 4, 3, 4);
        x.tape(1, 2, 3);
        due("shift(0, 3, 1, 1, 2)", x.shift(0, 3, 1, 1, 2), 2);
        dueRow(1, 0, 3, 4);
        dueRow(0, 2, 3, 4, 3, 4);
        due("shift(0, 5, 1, 3, 0)", x.shift(0, 5, 1, 3, 0), 0);
        due("shift(0, 6, 1, 3, 0)", x.shift(0, 6, 1, 3, 0), PLACE);
        due("shift(0, 5, 1, 4, 0)", x.shift(0, 5, 1, 4, 0), PLACE);
        due("shift(0, 4, 1, 0, 2)", x.shift(0, 4, 1, 0, 2), PLACE);
        due("shift(0, 0, 1, 2, 2)", x.shift(0, 0, 1, 2, 2), PLACE);
        due("shift(0, -1, 1, 0, 1)", x.shift(0, -1, 1, 0, 1), PLACE);
        due("shift(0, 0, 1, -1, 1)", x.shift(0, 0, 1, -1, 1), PLACE);
        due("shift(0, 0, 1, 0, -1)", x.shift(0, 0, 1, 0, -1), PLACE);
        due("shift big", x.shift(0, GREATEST, 1, GREATEST, GREATEST), PLACE);
        due("shift big n", x.shift(0, 1, 1, 1, GREATEST), PLACE);
        x.tape(2, 3, 5);
        due("shift(0, -1, 2, 0, 1)", x.shift(0, -1, 2, 0, 1), CAST);
        due("shift(2, 0, 1, 0, 1)", x.shift(2, 0, 1, 0, 1), CAST);
        due("shift(0, 0, 3, 0, -1)", x.shift(0, 0, 3, 0, -1), NOTHING);
        due("shift(3, 0, 0, 0, 1)", x.shift(3, 0, 0, 0, 1), NOTHING);
        for (int t : new int[]{-1, 6, LEAST, GREATEST}) {
            due("shift(" + t + ", 0, 3, 0, 1)", x.shift(t, 0, 3, 0, 1), SeatOn.NONE);
            due("shift(3, 0, " + t + ", 0, 1)", x.shift(3, 0, t, 0, 1), SeatOn.NONE);
        }
        dueRow(1, 0, 3, 4);
    }
}
