/** Runs every test of the project; ends with 1 if one fails. */
public final class AllTests {
    public static void main(String[] args) throws java.io.IOException {
        Checks checks = new Checks(true);
        SourceTest.runAll(checks);
        ReadmeTest.runAll(checks);
        ShelfTest.runAll(checks);
        LifeTest.runAll(checks);
        TapeTest.runAll(checks);
        WeekTest.runAll(checks);
        OutcomeTest.runAll(checks);
        ByRuleTest.runAll(checks);
        KeepTest.runAll(checks);
        TermsTest.runAll(checks);
        FarTest.runAll(checks);
        ModelTest.runAll(checks);
        BrokenTest.runAll(checks);
        checks.close();
        if (checks.failed() != 0) {
            System.exit(1);
        }
    }
}
