/** Promises 19 to 22, 27 and 35: how the coin is parted, weeks in truth, letters and draws. */
final class WeekTest {
    private final Checks checks;

    private WeekTest(Checks checks) {
        this.checks = checks;
    }

    static void runAll(Checks checks) {
        WeekTest t = new WeekTest(checks);
        t.pays();
        t.paysByLeasts();
        t.paysRefused();
        t.weeks();
        t.weeksMissed();
        t.weeksGrow();
        t.weeksBite();
        t.pay();
        t.judge();
        t.write();
        t.seed();
    }

    private void due(String what, long want, long got) {
        checks.same(what, want, got);
    }

    private void parted(NineDebts x, int s, int... due) {
        for (int d = 0; d < due.length; d++) {
            due("pays(" + s + ", " + d + ")", due[d], x.pays(s, d));
        }
    }

    private void sums(NineDebts x, int... due) {
        for (int d = 0; d < due.length; d++) {
            due("sum of " + d, due[d], x.debtOf(d, 1));
        }
    }

    private void missed(NineDebts x, int... due) {
        for (int d = 0; d < due.length; d++) {
            due("weeks of " + d, due[d], x.debtOf(d, 6));
        }
    }

    private void pays() {
        checks.begin("promise 19");
        NineDebts x = Lives.withRules("debt 30 kind 0 rate 9;debt 8 kind 0 rate 2;"
                + "debt 12 kind 0 rate 5 patience 1 least 9", 15);
        parted(x, 1, 30, 0, 10);
        parted(x, 2, 20, 8, 12);
        parted(x, 3, 28, 0, 12);
        parted(x, 4, 13, 8, 12);
        parted(x, 5, 20, 8, 12);
        parted(x, 6, 5, 8, 12);
        x.rule(6, 6, 99);
        parted(x, 6, 0, 0, 0);
        x.ask(0, 100);
        for (int s = 1; s <= 5; s++) {
            parted(x, s, 30, 8, 12);
        }
        parted(x, 6, 21, 8, 12);
        due("nothing went by", 0, x.status(2));
        due("nothing was paid", 50, x.status(5));
        NineDebts y = Lives.withRules("debt 5 kind 0;debt 60 kind 5 patience 2;debt 60 kind 0;debt 60 kind 1;"
                + "debt 60 kind 0", 0);
        Lives.row(y, 0, 5);
        y.pay(0);
        y.income(1, 7);
        parted(y, 1, 0, 42, 0, 0, 0);
        parted(y, 3, 0, 0, 42, 0, 0);
        parted(y, 4, 0, 10, 10, 10, 10);
    }

    private void paysByLeasts() {
        NineDebts x = Lives.withRules("income 20;debt 30 kind 0;debt 8 kind 0;debt 12 kind 0 least 9", 0);
        parted(x, 5, 5, 6, 9);
        parted(x, 2, 0, 8, 12);
        x.income(0, 12);
        parted(x, 5, 5, 5, 2);
        x.income(0, 3);
        parted(x, 5, 3, 0, 0);
        NineDebts y = Lives.withRules("income 20;debt 20 kind 0 least 15;debt 10 kind 0 least 1", 0);
        parted(y, 5, 15, 5);
        NineDebts z = Lives.withRules("income 20;debt 7 kind 0 least 15;debt 90 kind 0 least 9", 0);
        parted(z, 5, 7, 13);
    }

    private void paysRefused() {
        NineDebts x = Lives.withRules("debt 30 kind 0", 0);
        x.row(0, 0, 1);
        due("a bad shelf", -2, x.pays(8, 0));
        due("a bad shelf", -2, x.pays(-1, 0));
        due("a bad debt, also of a row", -2, x.pays(0, 1));
        due("a bad debt, also of nothing", -2, x.pays(7, -1));
        due("a row", -3, x.pays(0, 0));
        due("nothing", -4, x.pays(7, 0));
        Lives.refusals(checks, x, 4, 1, 1, 0, 0);
    }

    private void weeks() {
        checks.begin("promise 20");
        NineDebts x = Lives.withRules("debt 100 kind 5 least 40", 0);
        due("one week", 40, x.weeks(2, 1));
        due("two weeks: 40, and the last 20", 60, x.weeks(2, 2));
        due("purse", 20, x.status(3));
        due("what was paid in all", 100, x.debtOf(0, 8));
        due("weeks go by all the same", 0, x.weeks(2, 20));
        due("week", 23, x.status(2));
        due("purse", 820, x.status(3));
        x.ask(0, 9980);
        due("with none open", 0, x.weeks(4, 1));
        due("9,999 at most", 9999, x.status(3));
        x.row(0, 0, 1);
        due("a bad shelf", -2, x.weeks(8, 1));
        due("no weeks", -2, x.weeks(2, 0));
        due("too many, also by a row", -2, x.weeks(0, 21));
        due("a row", -3, x.weeks(0, 1));
        due("nothing", -4, x.weeks(7, 1));
        due("week", 24, x.status(2));
        Lives.refusals(checks, x, 3, 1, 1, 0, 0);
        NineDebts y = Lives.withRules("income 9;income 50 of 3;debt 30 kind 5 least 1;debt 30 kind 5 least 1", 0);
        due("9, 9, 9, 33", 60, y.weeks(2, 4));
        due("purse", 17, y.status(3));
    }

    private void weeksMissed() {
        NineDebts x = Lives.of("chance 0;debt 90 kind 0 least 5;debt 90 kind 0 least 5;debt 4 kind 0 least 5;"
                + "debt 90 kind 3 rate 2 patience 9;debt 9 kind 0 least 5");
        Lives.row(x, 0, 4, 5, 0, 0, 0);
        x.pay(0);
        missed(x, 1, 0, 1, 0, 1);
        Lives.row(x, 0, 0, 4, 4, 0, 5);
        x.pay(0);
        missed(x, 2, 1, 1, 0, 0);
        due("paid off, though with less than its least", 0, x.debtOf(2, 1));
        Lives.row(x, 0, 6, 0, 0, 0, 4);
        x.pay(0);
        missed(x, 0, 2, 1, 1, 0);
        x.alter(3, 0, 9);
        Lives.row(x, 0, 6);
        x.pay(0);
        missed(x, 0, 3, 1, 0, 0);
    }

    private void weeksGrow() {
        NineDebts x = Lives.of("income 99;debt 50 kind 0 rate 7;debt 50 kind 1 rate 25;debt 50 kind 2 rate 1;"
                + "debt 50 kind 3 rate 1;debt 50 kind 4 rate 6 least 10;debt 50 kind 4 rate 6 least 10;debt 50 kind 5 rate 9");
        Lives.row(x, 0, 10, 11, 12, 13, 10, 9, 14);
        due("paid", 79, x.pay(0));
        sums(x, 47, 48, 76, 37, 40, 47, 36);
        Lives.row(x, 0, 1, 1, 1, 1, 50);
        due("stuck: more than its sum", -5, x.pay(0));
        Lives.row(x, 0, 1, 1, 1, 1, 40);
        due("paid", 44, x.pay(0));
        sums(x, 53, 58, 150, 41, 0, 53, 36);
    }

    private void weeksBite() {
        NineDebts x = Lives.of("income 0;chance 7;debt 100 kind 0 rate 3 patience 1 bite 11");
        x.rule(0, 2, 0);
        int[] harm = {0, 11, 22, 33, 33, 44};
        int[] weeks = {1, 0, 0, 0, 1, 0};
        int[] seed = {1103527590, -1770082073, 662824084, -999580867, -112468174, -1778682749};
        for (int w = 0; w < harm.length; w++) {
            due("paid", 0, x.weeks(0, 1));
            due("harm behind week " + w, harm[w], x.status(4));
            due("seed behind week " + w, seed[w], x.status(7));
            missed(x, weeks[w]);
        }
        sums(x, 118);
        NineDebts v = Lives.of("income 0;chance 8;debt 100 kind 0 patience 1 bite 1");
        v.rule(0, 2, 0);
        // Draws: 8, 6, 3, 3, 9, 5, 8, 7, 0, 6, 9, 7.
        v.weeks(0, 12);
        due("8 is not below 8", 8, v.status(4));
        NineDebts y = Lives.of("income 0;chance 0;debt 100 kind 5 patience 1 bite 5;debt 9 kind 0 patience 2 bite 7");
        y.rule(0, 2, 0);
        y.weeks(0, 1);
        due("no draw", 1, y.status(7));
        y.weeks(0, 1);
        due("two draws, whatever chance is", -1770082073, y.status(7));
        due("harm", 0, y.status(4));
        missed(y, 2, 2);
        y.ask(2, 10);
        y.weeks(0, 1);
        due("both bite", 12, y.status(4));
        missed(y, 0, 0);
        NineDebts z = Lives.of("income 9;debt 9 kind 0 patience 1 bite 7;chance 0");
        Lives.row(z, 0, 0);
        z.pay(0);
        z.ask(2, 10);
        Lives.row(z, 0, 9);
        z.pay(0);
        due("one that is paid off doesn't bite any more", 0, z.status(4));
        missed(z, 1);
    }

    private void pay() {
        checks.begin("promise 21");
        NineDebts x = Lives.of("debt 30 kind 5;debt 30 kind 5;debt 5 kind 5");
        x.row(0, 4, 3);
        x.set(0, 0, 7);
        x.set(0, 2, 7);
        due("booleans are 1 or 0", 2, x.pay(0));
        sums(x, 29, 30, 4);
        x.row(1, 3, 1);
        x.set(1, 0, 9);
        due("missing ones 0", 9, x.pay(1));
        sums(x, 20, 30, 4);
        Lives.row(x, 2, 1, 1, 1, 9999, -5);
        due("what stands behind the last debt's", 3, x.pay(2));
        due("purse", 106, x.status(3));
        due("week", 3, x.status(2));
        x.rule(3, 2, 0);
        Lives.row(x, 4, 0, 30);
        due("a bad shelf", -2, x.pay(8));
        due("a bad shelf", -2, x.pay(-1));
        due("a rule", -3, x.pay(3));
        due("nothing", -4, x.pay(7));
        due("more than its sum", -5, x.pay(4));
        Lives.row(x, 4, 0, -1);
        due("less than 0", -5, x.pay(4));
        x.ask(0, 0);
        x.income(3, 10);
        Lives.row(x, 4, 5, 6);
        due("more than the coin", -5, x.pay(4));
        due("nothing went by", 3, x.status(2));
        Lives.refusals(checks, x, 2, 1, 1, 3, 0);
        Lives.row(x, 4, 5, 5);
        due("all of the coin", 10, x.pay(4));
        x.row(5, 0, 0);
        due("an empty row", 0, x.pay(5));
    }

    private void judge() {
        checks.begin("promise 22");
        NineDebts x = Lives.of("income 40;debt 30 kind 0;debt 30 kind 0;debt 5 kind 0");
        Lives.row(x, 0, 30, 10, 0);
        due("payments", -1, x.judge(0));
        Lives.row(x, 0, 30, 10, 1);
        due("more than the coin", 9, x.judge(0));
        Lives.row(x, 0, 30, 31, 6);
        due("the first with more than its sum", 1, x.judge(0));
        Lives.row(x, 0, -1, 31, 6);
        due("less than 0", 0, x.judge(0));
        Lives.row(x, 0, 30, 30, 6);
        due("ahead of all being too much", 2, x.judge(0));
        x.row(1, 3, 2);
        x.set(1, 0, 1L << 32);
        due("far too much", 0, x.judge(1));
        x.set(1, 0, Long.MIN_VALUE);
        due("far too little", 0, x.judge(1));
        x.row(1, 3, 0);
        due("an empty row", -1, x.judge(1));
        Lives.row(x, 1, 0, 0, 0, -1);
        due("behind the last debt's", -1, x.judge(1));
        x.rule(2, 2, 0);
        due("a bad shelf", -2, x.judge(8));
        due("a bad shelf", -2, x.judge(-1));
        due("a rule", -3, x.judge(2));
        due("nothing", -4, x.judge(3));
        due("nothing was done", 0, x.status(2));
        Lives.refusals(checks, x, 2, 1, 1, 0, 0);
    }

    private void write() {
        checks.begin("promise 27");
        NineDebts x = Lives.of("income 0;income 5 of 0;debt 90 kind 0 patience 9;debt 5 kind 0;debt 90 kind 0");
        x.rule(0, 2, 0);
        x.weeks(0, 2);
        due("how many they were", 2, x.write(0));
        missed(x, 0, 0, 2);
        due("written to", 1, x.debtOf(0, 7));
        due("not written to", 0, x.debtOf(2, 7));
        due("again", -5, x.write(0));
        due("one that isn't open", -5, x.write(1));
        due("no such debt", -2, x.write(3));
        due("no such debt", -2, x.write(-1));
        due("one with no weeks, too", 2, x.write(2));
        Lives.refusals(checks, x, 2, 0, 0, 2, 0);
    }

    private void seed() {
        checks.begin("promise 35");
        NineDebts x = Lives.of("income 0;chance 9;debt 90 kind 0 patience 1 bite 7");
        due("the one at first", 1, x.seed(-112468174));
        due("status(7)", -112468174, x.status(7));
        x.rule(0, 2, 0);
        x.weeks(0, 1);
        due("seed", -1778682749, x.status(7));
        due("5 is below 9", 7, x.status(4));
        due("the one ahead", -1778682749, x.seed(0));
        x.weeks(0, 1);
        due("seed", 12345, x.seed(Integer.MIN_VALUE));
        due("a draw of 0", 14, x.status(4));
        due("any int", Integer.MIN_VALUE, x.seed(Integer.MAX_VALUE));
    }
}
