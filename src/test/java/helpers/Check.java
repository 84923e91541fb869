/** Counts answers that are not as due. */
final class Check {
    private int looked = 0;
    private int wrong = 0;

    void due(String call, long got, long want) {
        looked++;
        if (got == want) return;
        wrong++;
        if (wrong <= 40) System.out.println(call + " answered " + got + ", due is " + want);
    }

    void holds(String what, boolean is) {
        looked++;
        if (is) return;
        wrong++;
        if (wrong <= 40) System.out.println("not so: " + what);
    }

    int wrong() {
        return wrong;
    }

    /** Says how it went; the test's last call. */
    void end() {
        System.out.println(looked + " looked at, " + wrong + " wrong");
        if (wrong != 0 || looked == 0) System.exit(1);
    }
}
