/** Runs every test of the project; ends with 1 if one fails. */
public final class AllTests {
    public static void main(String[] args) {
        Checks checks = new Checks();
        ModelTest.runAll(checks);
        checks.close();
        if (checks.failed() != 0) {
            System.exit(1);
        }
    }
}
