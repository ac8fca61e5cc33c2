/** Promises 36 to 38: what is kept, and how things stand. */
final class KeepTest {
    private final Checks checks;

    private KeepTest(Checks checks) {
        this.checks = checks;
    }

    static void runAll(Checks checks) {
        KeepTest t = new KeepTest(checks);
        t.imageAndBack();
        t.backAgain();
        t.status();
    }

    private void due(String what, long want, long got) {
        checks.same(what, want, got);
    }

    private void imageAndBack() {
        checks.begin("promise 36");
        NineDebts x = Lives.of("purse 3;unit 4;chance 5;income 6 of 1;debt 50 kind 0 rate 7 patience 1 bite 9");
        Lives.row(x, 0, 4);
        x.write(0);
        x.pay(0);
        x.rule(1, 2, 0);
        Lives.feed(x, "unit 4");
        due("image()", 1, x.image());
        x.alter(0, 0, 1);
        x.alter(0, 1, 2);
        x.alter(0, 2, 3);
        x.alter(0, 3, 4);
        x.debt(5, 7, 0, 1, 1, 1);
        x.weeks(1, 3);
        x.ask(0, 1);
        x.ask(1, 2);
        x.ask(2, 3);
        x.income(1, 9);
        x.seed(77);
        x.rule(2, 1, 0);
        x.set(0, 0, 8);
        x.set(0, 5, 8);
        Lives.feed(x, "9");
        checks.begin("promise 37");
        due("back()", 1, x.back());
        int[] debt = {0, 53, 7, 1, 9, 5, 1, 1, 4};
        for (int what = 0; what < debt.length; what++) {
            due("debtOf(0, " + what + ")", debt[what], x.debtOf(0, what));
        }
        Lives.status(checks, x, 1, 1, 1, 39, 0, 53, 7, 1103527590, 3, 4, 5);
        due("income 1", 6, x.income(1, 6));
        due("shelves stay", 8, x.element(0, 0));
        due("shelves stay", 11, x.holds(2));
        due("refusals stay", 1, x.status(12));
        due("the tape stays", 1, x.life());
        due("unit", 49, x.status(9));
    }

    private void backAgain() {
        NineDebts x = new NineDebts();
        due("nothing was kept", -5, x.back());
        x.image();
        x.debt(0, 500, 0, 9, 1, 99);
        x.write(0);
        x.rule(0, 2, 0);
        x.weeks(0, 1);
        x.back();
        due("no debts", 0, x.status(0));
        due("a debt as new", 0, x.debt(1, 6, 0, 1, 1, 1));
        due("its weeks", 0, x.debtOf(0, 6));
        due("not written to", 0, x.debtOf(0, 7));
        due("not paid to", 0, x.debtOf(0, 8));
        x.back();
        due("as often as one likes", 0, x.status(0));
        x.debt(2, 7, 0, 1, 1, 1);
        x.image();
        x.alter(0, 0, 9);
        x.back();
        due("what was kept last", 7, x.debtOf(0, 1));
        due("its rate", 0, x.debtOf(0, 2));
        Lives.refusals(checks, x, 0, 0, 0, 1, 0);
    }

    private void status() {
        checks.begin("promise 38");
        NineDebts x = Lives.of("income 0;purse 45;unit 3;chance 10;debt 5 kind 0;debt 30 kind 0 patience 1 bite 8 least 50;"
                + "debt 50 kind 0 rate 1");
        x.rule(4, 2, 0);
        x.row(5, 0, 0);
        x.weeks(4, 1);
        Lives.feed(x, "abc");
        Lives.status(checks, x, 3, 1, 1, 0, 0, 41, 3, 1, 2, 3, 10, -1);
        x.rule(4, 6, 99);
        x.alter(2, 1, 1);
        x.weeks(4, 1);
        Lives.status(checks, x, 3, 1, 2, 0, 10, 42, 3, 1103527590, 2, 3, 10, -1);
        Lives.refusals(checks, x, 0, 0, 0, 0, 0);
        x.row(8, 0, 0);
        x.pay(4);
        x.pay(4);
        x.pay(0);
        x.pay(0);
        x.pay(0);
        x.set(5, 0, 1);
        x.back();
        x.back();
        x.back();
        x.back();
        for (int d = 3; d < 14; d++) {
            x.debt(0, 5, 0, 1, 1, 1);
        }
        Lives.refusals(checks, x, 2, 2, 3, 4, 5);
        due("another what", -1, x.status(-1));
        due("another what", -1, x.status(11));
        due("another what", -1, x.status(17));
        due("another what", -1, x.status(Integer.MIN_VALUE));
        due("another what", -1, x.status(Integer.MAX_VALUE));
        Lives.refusals(checks, x, 2, 2, 3, 4, 5);
    }
}
