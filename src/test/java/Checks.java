/** Counts what was as due and prints what wasn't. */
final class Checks {
    private int passed = 0;
    private int failed = 0;
    private String part = "";
    private final boolean prints;

    Checks(boolean prints) {
        this.prints = prints;
    }

    void begin(String name) {
        part = name;
    }

    void same(String what, long want, long got) {
        if (want == got) {
            passed++;
        } else {
            failed++;
            if (prints) {
                System.out.println(part + ": " + what + " is " + got + ", due is " + want);
            }
        }
    }

    void yes(String what, boolean is) {
        same(what, 1, is ? 1 : 0);
    }

    int failed() {
        return failed;
    }

    void close() {
        System.out.println(passed + " passed, " + failed + " failed");
    }
}
