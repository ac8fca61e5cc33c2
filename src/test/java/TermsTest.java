/** The terms' edges: what is least and most of each thing in a week, in a rule, and in what comes of it. */
final class TermsTest {
    private static final int DEAR = 1;
    private static final int SMALL = 2;
    private static final int LOUD = 3;
    private static final int EVEN = 4;
    private static final int LEASTS = 5;
    private static final int KEEP = 6;

    private final Checks checks;

    private TermsTest(Checks checks) {
        this.checks = checks;
    }

    static void runAll(Checks checks) {
        TermsTest t = new TermsTest(checks);
        checks.begin("terms, 1: the life");
        t.nineDebts();
        t.openAboveNothing();
        t.incomesGoRound();
        t.purseAtMost();
        checks.begin("terms, 2: a week");
        t.payments();
        t.missedWeeks();
        t.sleepers();
        t.patience();
        t.bite();
        t.chance();
        t.drawsByNumbers();
        t.draws();
        t.sumsAtMost();
        t.doubles();
        t.parts();
        t.fines();
        checks.begin("terms, 2: rules");
        t.dear();
        t.small();
        t.loud();
        t.even();
        t.leasts();
        t.keep();
        t.without();
        checks.begin("terms, 3: what comes of it");
        t.runLengths();
        t.runLoss();
        t.bestLimits();
        t.bestRound();
        t.bestPayments();
        t.bestAmongNine();
        t.bestWhole();
        t.offers();
        t.ones();
        t.hangs();
        t.letters();
        t.enough();
        checks.begin("refusals: the first that fits");
        t.order();
    }

    private void due(String what, long want, long got) {
        checks.same(what, want, got);
    }

    private void parted(NineDebts x, int s, int... due) {
        for (int d = 0; d < due.length; d++) {
            due("pays(" + s + ", " + d + ")", due[d], x.pays(s, d));
        }
    }

    private void column(NineDebts x, int what, int... due) {
        for (int d = 0; d < due.length; d++) {
            due("debtOf(" + d + ", " + what + ")", due[d], x.debtOf(d, what));
        }
    }

    /** So many weeks go by with nothing paid; shelf 0 holds an empty row then. */
    private static void idle(NineDebts x, int n) {
        x.row(0, 0, 0);
        for (int w = 0; w < n; w++) {
            x.pay(0);
        }
    }

    private void nineDebts() {
        NineDebts x = new NineDebts();
        for (int d = 0; d < 9; d++) {
            due("debt " + d, d, x.debt(0, 9 - d, 0, 1, 0, 1));
        }
        due("no tenth", -6, x.debt(0, 1, 0, 1, 0, 1));
        due("debts", 9, x.status(0));
        due("the last one", 1, x.debtOf(8, 1));
        due("no number 9", -2, x.debtOf(9, 1));
        Lives.row(x, 0, 0, 0, 0, 0, 0, 0, 0, 0, 2);
        due("judge tells the last one", 8, x.judge(0));
        x.income(0, 44);
        Lives.row(x, 0, 9, 8, 7, 6, 5, 4, 3, 2, 1);
        due("judge tells all together", 9, x.judge(0));
        x.income(0, 45);
        due("judge finds nothing", -1, x.judge(0));
        due("all are paid", 45, x.pay(0));
        due("one that is paid off is still there", -6, x.debt(0, 1, 0, 1, 0, 1));
    }

    private void openAboveNothing() {
        NineDebts x = Lives.of("debt 1 kind 0 rate 9;debt 2 kind 0 rate 9");
        due("open", 2, x.status(1));
        Lives.row(x, 0, 1, 1);
        x.pay(0);
        due("open", 1, x.status(1));
        column(x, 1, 0, 10);
        idle(x, 3);
        column(x, 1, 0, 37);
        column(x, 6, 0, 1);
    }

    private void incomesGoRound() {
        NineDebts x = new NineDebts();
        for (int w = 0; w < 12; w++) {
            due("income", 40, x.income(w, w + 1));
        }
        idle(x, 5);
        due("weeks 0 to 4", 1 + 2 + 3 + 4 + 5, x.status(3));
        x.rule(SMALL, SMALL, 0);
        due("weeks 5 to 11", 15 + 6 + 7 + 8 + 9 + 10 + 11 + 12, x.run(SMALL, 7, 5));
        due("and week 12 as week 0", 15 + 63 + 1, x.run(SMALL, 8, 5));
        due("sixty weeks", 15 + 5 * 78, x.run(SMALL, 60, 5));
        x.weeks(SMALL, 20);
        due("weeks 0 to 24", 2 * 78 + 1, x.status(3));
        x.ask(0, 0);
        x.debt(5, 9, 0, 9, 0, 1);
        due("of week 25 the second", 2, x.pays(SMALL, 0));
    }

    private void purseAtMost() {
        NineDebts x = Lives.of("income 99;debt 999 kind 5");
        int[] paid = {0, 98, 99, 100};
        int[] left = {9999, 9999, 9999, 9998};
        for (int k = 0; k < paid.length; k++) {
            x.ask(0, 9999);
            Lives.row(x, 0, paid[k]);
            due("paid", paid[k], x.pay(0));
            due("purse", left[k], x.status(3));
        }
        NineDebts y = Lives.withRules("income 99;income 98 of 1;debt 999 kind 5", 0);
        y.ask(0, 9901);
        due("a run's purse", 9001, y.run(SMALL, 1, 5));
        y.rule(KEEP, KEEP, 99);
        due("weeks of nothing left to pay", 999, y.run(KEEP, 60, 3));
        due("a run's purse", 9999, y.run(KEEP, 60, 5));
    }

    private void payments() {
        NineDebts x = Lives.of("income 0;purse 9;debt 5 kind 5;debt 5 kind 5");
        int[][] told = {{0, 0}, {5, 0}, {5, 4}, {5, 5}, {6, 0}, {-1, 0}, {0, 6}, {0, -1}, {4, 6}, {9, -1}};
        int[] judged = {-1, -1, -1, 9, 0, 0, 1, 1, 1, 0};
        for (int k = 0; k < told.length; k++) {
            Lives.row(x, 1, told[k]);
            due("judge " + told[k][0] + ", " + told[k][1], judged[k], x.judge(1));
            if (judged[k] != -1) {
                due("pay " + told[k][0] + ", " + told[k][1], -5, x.pay(1));
            }
        }
        NineDebts y = Lives.of("income 0");
        Lives.row(y, 0, 7, -7);
        due("no debts, no coin: nothing is told", -1, y.judge(0));
        due("a week goes by", 0, y.pay(0));
        due("week", 1, y.status(2));
    }

    private void missedWeeks() {
        NineDebts x = Lives.of("chance 0;debt 90 kind 0 least 9;debt 90 kind 0 least 9;debt 90 kind 0 least 9;"
                + "debt 9 kind 0 least 9;debt 8 kind 0 least 9;debt 8 kind 0 least 9");
        idle(x, 1);
        column(x, 6, 1, 1, 1, 1, 1, 1);
        Lives.row(x, 0, 8, 9, 10, 8, 7, 8);
        x.pay(0);
        column(x, 6, 2, 0, 0, 2, 2, 1);
        column(x, 1, 82, 81, 80, 1, 1, 0);
        Lives.row(x, 0, 0, 0, 0, 1, 0);
        x.pay(0);
        column(x, 6, 3, 1, 1, 2, 3, 1);
    }

    private void sleepers() {
        NineDebts x = Lives.of("income 0;debt 50 kind 3 rate 3 patience 2 bite 7;debt 50 kind 3 patience 2 bite 5;"
                + "debt 50 kind 3 rate 50 patience 1 bite 90");
        int[][] sums = {{50, 55, 50}, {50, 60, 50}, {50, 65, 50}, {55, 70, 50}, {60, 75, 50}};
        int[][] missed = {{0, 1, 0}, {0, 0, 0}, {0, 1, 0}, {1, 0, 0}, {0, 1, 0}};
        int[] harm = {0, 5, 5, 10, 17};
        for (int w = 0; w < sums.length; w++) {
            due("grows in week " + w, w < 3 ? 0 : 5, x.grows(0));
            idle(x, 1);
            column(x, 1, sums[w]);
            column(x, 6, missed[w]);
            due("harm", harm[w], x.status(4));
        }
        NineDebts y = Lives.of("income 0;debt 50 kind 3 rate 50 patience 1 bite 9");
        idle(y, 50);
        due("till week 50", 50, y.status(5));
        due("bites at the end of this week", 1, y.bites(0));
        idle(y, 1);
        due("in week 50", 55, y.status(5));
        due("harm", 9, y.status(4));
    }

    private void patience() {
        NineDebts x = Lives.of("income 0;debt 50 kind 0 patience 9 bite 1;debt 50 kind 5 patience 9 bite 10;"
                + "debt 50 kind 1 patience 1 bite 0;debt 50 kind 5 patience 1 bite 99");
        idle(x, 1);
        due("patience 1", 0, x.status(4));
        column(x, 6, 1, 1, 0, 1);
        idle(x, 1);
        due("a friend's patience 1", 99, x.status(4));
        x.alter(3, 2, 0);
        idle(x, 6);
        due("eight weeks", 99, x.status(4));
        idle(x, 1);
        due("nine weeks", 100, x.status(4));
        idle(x, 8);
        due("seventeen weeks", 100, x.status(4));
        due("the friend bites now", 1, x.bites(1));
        idle(x, 1);
        due("eighteen weeks", 100 + 1 + 10, x.status(4));
        column(x, 6, 0, 0, 0, 0);
        NineDebts y = Lives.of("income 0;debt 50 kind 0 patience 9 bite 7");
        idle(y, 5);
        y.alter(0, 1, 3);
        due("more weeks than patience", 1, y.bites(0));
        idle(y, 1);
        due("bites once", 7, y.status(4));
        column(y, 6, 0);
    }

    private void bite() {
        NineDebts x = Lives.of("income 0;debt 50 kind 0 patience 1 bite 0;debt 50 kind 0 patience 1 bite 99");
        idle(x, 3);
        due("harm", 297, x.status(4));
        column(x, 6, 0, 0);
        due("a draw for a bite of 0, too: six", -1778682749, x.status(7));
    }

    private void chance() {
        for (int seed = -40; seed < 40; seed++) {
            NineDebts x = Lives.of("income 0;debt 50 kind 0 patience 1 bite 1");
            int next = (seed * 1000 * 1103515245 + 12345) >>> 16;
            for (int chance = 0; chance <= 10; chance++) {
                x.seed(seed * 1000);
                x.ask(2, chance);
                int harm = x.status(4);
                idle(x, 1);
                due("seed " + seed + "000, chance " + chance, next % 10 < chance ? 1 : 0, x.status(4) - harm);
            }
        }
    }

    /** Draws from seed 1: 8, 6, 3, 3, 9, 5. */
    private void drawsByNumbers() {
        NineDebts x = Lives.of("income 0;chance 7;debt 50 kind 0 patience 1 bite 1;debt 50 kind 0 patience 9 bite 50;"
                + "debt 50 kind 0 patience 1 bite 10");
        idle(x, 1);
        due("8 for the first, none for the second, 6 for the third", 10, x.status(4));
        column(x, 6, 1, 1, 0);
        due("two draws", -1770082073, x.status(7));
        idle(x, 1);
        due("3 and 3", 10 + 1 + 10, x.status(4));
        column(x, 6, 0, 2, 0);
        Lives.row(x, 0, 0, 0, 50);
        x.ask(0, 50);
        x.pay(0);
        due("9 for the first, none for one that is paid off", 21, x.status(4));
        column(x, 6, 1, 3, 0);
        idle(x, 1);
        due("5 for the first", 22, x.status(4));
    }

    private void draws() {
        int[] seeds = {0, -1, 1, Integer.MIN_VALUE, Integer.MAX_VALUE, -12345, 65536};
        for (int seed : seeds) {
            NineDebts x = Lives.of("income 0;chance 0;debt 50 kind 0 patience 1");
            x.seed(seed);
            idle(x, 1);
            due("the seed behind " + seed, (int) (seed * 1103515245L + 12345L), x.status(7));
            x.ask(2, 5);
            x.seed(seed);
            idle(x, 1);
            long upper = (seed * 1103515245L + 12345L >> 16) & 65535;
            due("the draw of " + seed, upper % 10 < 5 ? 10 : 0, x.status(4));
        }
        NineDebts y = Lives.of("income 0;debt 50 kind 0 patience 2");
        idle(y, 1);
        due("no weeks yet, no draw", 1, y.status(7));
        NineDebts z = Lives.withRules("debt 50 kind 0 patience 1;income 0;chance 5", 0);
        z.run(SMALL, 60, 0);
        due("no draw in a run", 1, z.status(7));
        due("each bite comes in a run", 600, z.run(SMALL, 60, 1));
    }

    private void sumsAtMost() {
        NineDebts x = Lives.of("income 0;chance 0;debt 999 kind 0 rate 49;debt 999 kind 1 rate 50;debt 999 kind 2 rate 1;"
                + "debt 997 kind 3;debt 999 kind 4 rate 49 least 1;debt 999 kind 5 rate 50");
        x.rule(SMALL, SMALL, 0);
        x.weeks(SMALL, 3);
        column(x, 1, 999 + 147, 3370, 7992, 1012, 999 + 147, 999);
        due("a run doubles no further, either", 9999 - 7992 + 1685 + 49 + 5 + 49, x.run(SMALL, 1, 2) - x.status(5));
        x.weeks(SMALL, 1);
        column(x, 1, 999 + 196, 5055, 9999, 1017, 999 + 196, 999);
        x.weeks(SMALL, 1);
        column(x, 1, 999 + 245, 7582, 9999, 1022, 999 + 245, 999);
        x.weeks(SMALL, 1);
        column(x, 1, 999 + 294, 9999, 9999, 1027, 999 + 294, 999);
        for (int k = 0; k < 8; k++) {
            x.weeks(SMALL, 20);
        }
        x.weeks(SMALL, 17);
        column(x, 1, 9966, 9999, 9999, 997 + 5 * 183, 9966, 999);
        x.weeks(SMALL, 1);
        column(x, 1, 9999, 9999, 9999, 997 + 5 * 184, 9999, 999);
        for (int k = 0; k < 80; k++) {
            x.weeks(SMALL, 20);
        }
        x.weeks(SMALL, 16);
        column(x, 1, 9999, 9999, 9999, 9997, 9999, 999);
        x.weeks(SMALL, 2);
        column(x, 1, 9999, 9999, 9999, 9999, 9999, 999);
        due("grows() is beside that", 49, x.grows(0));
        due("grows() is beside that", 4999, x.grows(1));
        due("grows() is beside that", 9999, x.grows(2));
        due("grows() is beside that", 5, x.grows(3));
    }

    private void doubles() {
        NineDebts x = Lives.of("income 0;debt 1 kind 2 rate 1;debt 1 kind 2 rate 2;debt 1 kind 2 rate 3;debt 1 kind 2;"
                + "debt 1 kind 2 rate 50");
        int[][] sums = {{2, 1, 1, 1, 1}, {4, 2, 1, 1, 1}, {8, 2, 2, 1, 1}, {16, 4, 2, 1, 1}, {32, 4, 2, 1, 1},
            {64, 8, 4, 1, 1}};
        for (int w = 0; w < sums.length; w++) {
            idle(x, 1);
            column(x, 1, sums[w]);
        }
        idle(x, 43);
        due("week 49", 1, x.debtOf(4, 1));
        due("in week 49", 1, x.grows(4));
        idle(x, 1);
        due("week 50", 2, x.debtOf(4, 1));
        due("never", 1, x.debtOf(3, 1));
        NineDebts y = Lives.of("debt 40 kind 2 rate 1");
        Lives.row(y, 0, 39);
        y.pay(0);
        due("by the sum behind the payment", 2, y.debtOf(0, 1));
    }

    private void parts() {
        NineDebts x = Lives.of("income 99;debt 99 kind 1 rate 1;debt 100 kind 1 rate 1;debt 199 kind 1 rate 1;debt 1 kind 1 rate 50;"
                + "debt 2 kind 1 rate 50;debt 3 kind 1 rate 50;debt 100 kind 1;debt 101 kind 1 rate 1");
        int[] grows = {0, 1, 1, 0, 1, 1, 0, 1};
        for (int d = 0; d < grows.length; d++) {
            due("grows(" + d + ")", grows[d], x.grows(d));
        }
        Lives.row(x, 0, 0, 0, 0, 0, 1, 1, 0, 2);
        x.pay(0);
        column(x, 1, 99, 101, 200, 1, 1, 3, 100, 99);
    }

    private void fines() {
        NineDebts x = Lives.of("debt 50 kind 4 rate 6 least 1;debt 50 kind 4 rate 6 least 9;debt 50 kind 4 rate 6 least 9;"
                + "debt 9 kind 4 rate 6 least 9;debt 5 kind 4 rate 6 least 9;debt 50 kind 4 least 9");
        Lives.row(x, 0, 1, 8, 9, 9, 4, 0);
        x.pay(0);
        column(x, 1, 49, 48, 41, 0, 7, 50);
        Lives.row(x, 0, 2, 9, 10, 0, 0, 3);
        x.pay(0);
        column(x, 1, 47, 39, 31, 0, 13, 47);
        due("if nothing were paid", 6, x.grows(2));
        due("one that is paid off", 0, x.grows(3));
    }

    private void dear() {
        NineDebts x = Lives.withRules("income 9;chance 0;debt 999 kind 1 rate 50;debt 999 kind 2 rate 1;debt 20 kind 3 rate 1;"
                + "debt 20 kind 4 rate 5", 0);
        due("499 and 999", 1, x.says(DEAR, DEAR));
        idle(x, 4);
        column(x, 1, 5055, 9999, 35, 40);
        due("9,999 aside: 2527 and 9999", 1, x.says(DEAR, DEAR));
        parted(x, DEAR, 0, 45, 0, 0);
        x.alter(1, 0, 2);
        due("in week 4 it doesn't double", 0, x.says(DEAR, DEAR));
        x.alter(0, 0, 0);
        due("5 and 5: the first", 2, x.says(DEAR, DEAR));
        x.alter(2, 0, 5);
        due("one that sleeps", 3, x.says(DEAR, DEAR));
        x.alter(3, 0, 0);
        due("all grow by 0: the first", 0, x.says(DEAR, DEAR));
        NineDebts y = Lives.withRules("income 9;debt 5 kind 0 rate 50;debt 5 kind 5;debt 90 kind 0 rate 7", 0);
        parted(y, DEAR, 5, 0, 4);
        y.income(0, 0);
        parted(y, DEAR, 0, 0, 0);
        due("first all the same", 0, y.says(DEAR, DEAR));
    }

    private void small() {
        NineDebts x = Lives.withRules("income 12;debt 7 kind 0;debt 6 kind 0;debt 6 kind 0;debt 1 kind 0", 0);
        due("the least", 3, x.says(SMALL, SMALL));
        parted(x, SMALL, 0, 6, 5, 1);
        x.income(0, 13);
        parted(x, SMALL, 0, 6, 6, 1);
        x.income(0, 14);
        parted(x, SMALL, 1, 6, 6, 1);
        x.income(0, 20);
        parted(x, SMALL, 7, 6, 6, 1);
        x.income(0, 21);
        parted(x, SMALL, 7, 6, 6, 1);
        due("one stays", 20, x.weeks(SMALL, 1));
        due("one stays", 1, x.status(3));
    }

    private void loud() {
        NineDebts x = Lives.withRules("income 0;chance 0;debt 90 kind 0 rate 9 patience 1;debt 90 kind 0 patience 4;"
                + "debt 90 kind 5 rate 50 patience 1;debt 90 kind 0 rate 50 patience 9", 0);
        due("patience 1", 0, x.says(LOUD, LOUD));
        idle(x, 3);
        x.write(0);
        due("a friend's twice 1 less 3 ahead of 4 less 3 and of 1", 2, x.says(LOUD, LOUD));
        x.alter(1, 1, 2);
        due("2 less 3, twice 1 less 3: neither grows, the first", 1, x.says(LOUD, LOUD));
        x.alter(1, 1, 1);
        due("1 less 3", 1, x.says(LOUD, LOUD));
        x.alter(3, 1, 1);
        due("1 less 3 and dearer", 3, x.says(LOUD, LOUD));
        x.alter(1, 0, 50);
        due("1 less 3 and as dear: the first", 1, x.says(LOUD, LOUD));
        x.ask(0, 200);
        parted(x, LOUD, 0, 90, 0, 110);
        due("DEAR says another, but by LOUD's order", 1, x.says(LOUD, DEAR));
        x.alter(0, 0, 50);
        due("DEAR's own", 0, x.says(DEAR, DEAR));
        NineDebts y = Lives.withRules("income 0;chance 0;debt 999 kind 1 rate 50 patience 1;debt 999 kind 2 rate 1 patience 1", 0);
        idle(y, 4);
        due("as dear as grows() tells, 9,999 aside", 1, y.says(LOUD, LOUD));
        y.alter(0, 1, 2);
        y.alter(1, 1, 3);
        due("2 less 4 ahead of 3 less 4, though that is dearer", 0, y.says(LOUD, LOUD));
        y.alter(0, 1, 4);
        due("3 less 4 ahead of 4 less 4", 1, y.says(LOUD, LOUD));
        NineDebts z = Lives.withRules("income 0;chance 0;debt 9 kind 0 rate 7 patience 3;debt 9 kind 0 patience 2", 0);
        idle(z, 5);
        due("2 less 5 ahead of 3 less 5", 1, z.says(LOUD, LOUD));
    }

    private void even() {
        NineDebts x = Lives.withRules("income 2;debt 90 kind 0;debt 1 kind 0;debt 90 kind 0", 0);
        due("2 by 3", 0, x.says(EVEN, EVEN));
        parted(x, EVEN, 0, 0, 0);
        x.income(0, 3);
        due("3 by 3", 1, x.says(EVEN, EVEN));
        parted(x, EVEN, 1, 1, 1);
        x.income(0, 11);
        due("11 by 3", 3, x.says(EVEN, EVEN));
        parted(x, EVEN, 3, 1, 3);
        due("what one doesn't take stays", 7, x.weeks(EVEN, 1));
        due("what one doesn't take stays", 4, x.status(3));
        x.income(1, 7);
        due("11 by 2", 5, x.says(EVEN, EVEN));
        parted(x, EVEN, 5, 0, 5);
        NineDebts y = Lives.withRules("income 11;debt 90 kind 0;debt 11 kind 0", 0);
        Lives.row(y, 0, 0, 11);
        y.pay(0);
        due("11 by 1", 11, y.says(EVEN, EVEN));
        parted(y, EVEN, 11, 0);
        due("all of it to the only one", 22, y.weeks(EVEN, 2));
    }

    private void leasts() {
        NineDebts x = Lives.withRules("debt 30 kind 0 least 10;debt 4 kind 0 least 6;debt 20 kind 0 least 6", 0);
        int[][] due = {{0, 0, 0, 0}, {9, 9, 0, 0}, {10, 10, 0, 0}, {13, 10, 3, 0}, {14, 10, 4, 0}, {19, 10, 4, 5},
            {20, 10, 4, 6}, {21, 10, 4, 7}, {34, 10, 4, 20}, {35, 11, 4, 20}, {54, 30, 4, 20}, {55, 30, 4, 20}};
        for (int[] d : due) {
            x.income(0, d[0]);
            parted(x, LEASTS, d[1], d[2], d[3]);
        }
        due("leasts of open ones, above a sum, too", 22, x.says(LEASTS, LEASTS));
        NineDebts y = Lives.withRules("debt 30 kind 0 least 25;debt 20 kind 0 least 1", 0);
        y.income(0, 28);
        parted(y, LEASTS, 25, 3);
        NineDebts z = Lives.of("income 99;purse 6");
        for (int d = 0; d < 9; d++) {
            z.debt(5, 50 - d, 0, 9, 0, 10 + d);
        }
        for (int a = 0; a <= 6; a++) {
            z.rule(LEASTS, LEASTS, a);
            z.ask(0, 6);
            parted(z, LEASTS, 10, 11, 12, 13, 14, 15, 16, 14, 0);
            z.ask(0, 30);
            parted(z, LEASTS, 10, 11, 12, 13, 14, 15, 16, 17, 21);
        }
    }

    private void keep() {
        NineDebts x = Lives.withRules("income 9;debt 90 kind 0;debt 5 kind 0", 0);
        int[] a = {0, 1, 3, 4, 5, 8, 9, 10, 99};
        int[][] due = {{4, 5}, {3, 5}, {1, 5}, {0, 5}, {0, 4}, {0, 1}, {0, 0}, {0, 0}, {0, 0}};
        for (int k = 0; k < a.length; k++) {
            x.rule(KEEP, KEEP, a[k]);
            parted(x, KEEP, due[k]);
            due("its a", a[k], x.says(KEEP, 0));
            due("the first all the same", 1, x.says(KEEP, KEEP));
        }
        due("a of others is nothing", 1, x.rule(SMALL, SMALL, 99));
        parted(x, SMALL, 4, 5);
    }

    /** Rules where there is nothing to part: no debts, none open, no coin. */
    private void without() {
        NineDebts x = Lives.withRules("income 0;income 5 of 0;debt 5 kind 0", 0);
        x.weeks(SMALL, 1);
        NineDebts y = Lives.withRules("income 0", 0);
        NineDebts z = Lives.withRules("income 0;debt 5 kind 5", 0);
        for (int s = 1; s <= 6; s++) {
            due("none open", 0, x.pays(s, 0));
            due("none open", 0, x.weeks(s, 2));
            due("no debts", 0, y.weeks(s, 2));
            due("no debts", -2, y.pays(s, 0));
            due("no coin", 0, z.pays(s, 0));
            due("no coin", 0, z.weeks(s, 2));
        }
        due("weeks", 13, x.status(2));
    }

    private void runLengths() {
        NineDebts x = Lives.withRules("income 0;debt 50 kind 0 rate 1", 0);
        due("one week", 51, x.run(SMALL, 1, 2));
        due("sixty weeks", 110, x.run(SMALL, 60, 2));
        due("none", -2, x.run(SMALL, 0, 2));
        due("sixty-one", -2, x.run(SMALL, 61, 2));
        due("one week", 1, x.weeks(SMALL, 1) + x.status(2));
        due("twenty weeks", 21, x.weeks(SMALL, 20) + x.status(2));
        due("twenty-one", -2, x.weeks(SMALL, 21));
        due("a run goes on from now", 72, x.run(SMALL, 1, 2));
    }

    private void runLoss() {
        NineDebts x = Lives.withRules("income 10;chance 0;debt 30 kind 5 patience 1 bite 3 least 20", 0);
        idle(x, 2);
        x.ask(0, 0);
        due("two weeks ahead count: bites at once, and then not for two", 3, x.run(SMALL, 2, 1));
        due("loss", 3 + 10, x.run(SMALL, 2, 0));
        due("paid off in the third week", 3, x.run(SMALL, 3, 4));
        due("not in two", -1, x.run(SMALL, 2, 4));
        due("what is left in the purse", 0, x.run(SMALL, 3, 5));
        due("what is left in the purse", 10, x.run(SMALL, 4, 5));
        due("paid", 30, x.run(SMALL, 60, 3));
    }

    private void bestLimits() {
        NineDebts x = Lives.of("income 0;unit 50;debt 1 kind 5;debt 1 kind 5;debt 1 kind 5");
        x.ask(0, 349);
        due("349 by 50", 0, x.best(3, -1));
        x.ask(0, 350);
        due("350 by 50", -5, x.best(1, -1));
        x.ask(0, 300);
        x.income(2, 49);
        due("349 by 50 in three weeks", 0, x.best(3, -1));
        x.income(2, 50);
        due("350 by 50 in three weeks", -5, x.best(3, -1));
        due("300 by 50 in two", 0, x.best(2, -1));
        x.debt(5, 1, 0, 1, 0, 1);
        due("four open", -5, x.best(1, -1));
        x.all(0);
        due("one open", 0, x.best(1, -1));
        x.ask(1, 1);
        x.ask(0, 7);
        due("7 by 1", -5, x.best(1, -1));
        x.ask(0, 6);
        due("6 by 1", 0, x.best(1, -1));
        due("the coin of a later week counts alone", -5, x.best(3, -1));
    }

    /** The incomes of the other weeks go round behind week 11. */
    private void bestRound() {
        NineDebts x = Lives.withRules("income 0;income 30 of 11;income 39 of 0;income 1 of 1;debt 90 kind 5 patience 9", 0);
        idle(x, 11);
        x.ask(0, 0);
        due("weeks 11 and 0: 69 by 10", 90 - 60, x.best(2, -1));
        due("week 1, too: 70 by 10", -5, x.best(3, -1));
        x.income(1, 0);
        due("69 by 10", 90 - 60, x.best(3, -1));
    }

    private void bestPayments() {
        NineDebts x = Lives.of("unit 10;income 25;debt 25 kind 5;debt 25 kind 5");
        due("of 0, 25 and 25, 0 the first", 25, x.best(1, -1));
        due("debt 0", 0, x.best(1, 0));
        due("debt 1", 25, x.best(1, 1));
        NineDebts y = Lives.of("unit 10;income 20;debt 11 kind 5;debt 9 kind 5;debt 8 kind 5");
        due("11 and 9", 8, y.best(1, -1));
        due("debt 0", 11, y.best(1, 0));
        due("debt 1", 9, y.best(1, 1));
        due("debt 2", 0, y.best(1, 2));
        NineDebts z = Lives.of("unit 10;income 0;income 20 of 0;debt 5 kind 0 rate 1;debt 20 kind 1 rate 50");
        // 5 and 10 leave 10 and 5; 0 and 20 leave 5 and 1 for the rate.
        due("one week", 6, z.best(1, -1));
        due("debt 0", 0, z.best(1, 0));
        due("debt 1", 20, z.best(1, 1));
        due("two weeks", 7, z.best(2, -1));
        due("debt 1", 20, z.best(2, 1));
    }

    /** The open ones can be any of the nine. */
    private void bestAmongNine() {
        NineDebts x = Lives.of("income 99");
        for (int d = 0; d < 9; d++) {
            x.debt(5, d % 4 == 0 ? 30 : 1, 0, 9, 0, 1);
        }
        Lives.row(x, 0, 0, 1, 1, 1, 0, 1, 1, 1, 0);
        due("six are paid off", 6, x.pay(0));
        x.ask(0, 0);
        x.income(1, 60);
        x.income(2, 0);
        x.income(3, 0);
        due("60 of 90", 30, x.best(3, -1));
        int[] first = {0, 0, 0, 0, 0, 0, 0, 0, 0};
        for (int d = 0; d < 9; d++) {
            due("best(3, " + d + ")", first[d], x.best(3, d));
        }
        int[] once = {0, 0, 0, 0, 30, 0, 0, 0, 30};
        for (int d = 0; d < 9; d++) {
            due("best(1, " + d + ")", once[d], x.best(1, d));
        }
        NineDebts y = Lives.of("income 45");
        int[] sums = {1, 1, 1, 1, 1, 1, 15, 7, 23};
        for (int d = 0; d < 9; d++) {
            y.debt(5, sums[d], 0, 9, 0, 1);
        }
        Lives.row(y, 0, 1, 1, 1, 1, 1, 1);
        y.pay(0);
        y.ask(0, 0);
        due("whole sums", 0, y.best(1, -1));
        for (int d = 0; d < 9; d++) {
            due("best(1, " + d + ")", d < 6 ? 0 : sums[d], y.best(1, d));
        }
    }

    /** A whole sum can be paid, multiple of the unit or not. */
    private void bestWhole() {
        for (int sum = 1; sum <= 99; sum++) {
            NineDebts x = Lives.of("income 99;unit 50;debt " + sum + " kind 5;debt 200 kind 5");
            due("loss of " + sum, sum < 50 ? 150 : 200, x.best(1, -1));
            // 50 for the other loses as little, and 0 for this one comes first.
            due("whole of " + sum, sum == 50 ? 0 : sum, x.best(1, 0));
        }
    }

    private void offers() {
        NineDebts x = Lives.withRules("income 0;debt 30 kind 0 rate 5", 0);
        x.ask(0, 9999);
        due("for all that can be: 30 were paid", 30 - 9999, x.offer(SMALL, 1, 0, 9999));
        x.ask(0, 9998);
        due("more than the purse", -1000002, x.offer(SMALL, 1, 0, 9999));
        x.ask(0, 0);
        due("for nothing, of nothing: 35 in a week", 35, x.offer(SMALL, 1, 0, 0));
        due("330 in sixty, and three weeks' bites", 30 + 300 + 200, x.offer(SMALL, 60, 0, 0));
        x.income(0, 99);
        due("the income is not the purse", -1000002, x.offer(SMALL, 1, 0, 1));
    }

    private void ones() {
        NineDebts x = Lives.withRules("income 0;chance 0;debt 999 kind 2 rate 1;debt 999 kind 2 rate 1", 0);
        idle(x, 2);
        due("3996 and 3996", 7992, x.one(SMALL, 1, 0));
        idle(x, 1);
        due("7992 and 7992: 9,999 at most", 9999, x.one(SMALL, 1, 0));
        due("with any rate", 9999, x.one(SMALL, 1, 50));
        due("nothing was done", 15984, x.status(5));
        due("in truth", 0, x.all(50));
        due("9,999 at most", 9999, x.debtOf(0, 1));
        due("the other", 0, x.debtOf(1, 1));
        due("its kind stays", 2, x.debtOf(1, 0));
    }

    private void hangs() {
        NineDebts x = Lives.withRules("income 0;debt 5 kind 5 bite 0;debt 9 kind 5 bite 0;debt 9 kind 5 bite 0", 0);
        due("the most, of two the first", 1, x.hangs(SMALL, 60));
        x.debt(5, 1, 0, 1, 99, 1);
        due("a bite that comes in two weeks", 3, x.hangs(SMALL, 2));
        due("and not in one", 1, x.hangs(SMALL, 1));
        NineDebts y = Lives.withRules("income 5 of 0;income 4 of 1;debt 60 kind 5 patience 9;"
                + "debt 55 kind 0 patience 1 bite 20 least 5", 0);
        due("one that is gone leaves no coin: 66, as 4 is below its least, and 51", 1, y.hangs(EVEN, 2));
    }

    private void letters() {
        NineDebts x = Lives.withRules("income 0;debt 5 kind 0 patience 2 bite 4", 0);
        due("none has weeks", -1, x.quiet(SMALL, 1));
        due("three weeks bite once, with a letter or not", -1, x.quiet(SMALL, 3));
        due("a letter with no weeks", 0, x.write(0));
        due("written to", 1, x.debtOf(0, 7));
        due("one letter each", -5, x.write(0));
        x.all(0);
        due("ONE was not written to", 0, x.write(0));
        NineDebts y = Lives.withRules("income 0;debt 5 kind 0 patience 3 bite 9;debt 5 kind 0 patience 3 bite 4", 0);
        y.write(0);
        idle(y, 2);
        due("a second letter would quiet more, but can't be", 1, y.quiet(SMALL, 1));
        y.write(1);
        idle(y, 2);
        due("none can have a letter any more", -1, y.quiet(SMALL, 1));
    }

    private void enough() {
        NineDebts x = Lives.withRules("debt 99 kind 5", 0);
        due("99", 99, x.enough(SMALL, 1));
        x.debt(5, 1, 0, 9, 0, 1);
        due("100", -1, x.enough(SMALL, 1));
        due("50", 50, x.enough(SMALL, 2));
        due("2", 2, x.enough(SMALL, 60));
        x.ask(0, 100);
        due("0", 0, x.enough(SMALL, 1));
        NineDebts y = Lives.withRules("debt 1 kind 0 rate 50", 0);
        due("1, at once", 1, y.enough(SMALL, 60));
        idle(y, 1);
        y.ask(0, 0);
        due("51 at once, or 50 more each week", 51, y.enough(SMALL, 60));
    }

    private void order() {
        NineDebts x = Lives.withRules("debt 30 kind 5;debt 30 kind 5;debt 30 kind 5;debt 30 kind 5", 0);
        x.row(0, 0, 1);
        due("weeks: bad ahead of nothing", -2, x.weeks(7, 0));
        due("run: bad ahead of nothing", -2, x.run(7, 0, 0));
        due("best: bad ahead of stuck", -2, x.best(1, 4));
        due("best: bad ahead of stuck", -2, x.best(4, 0));
        due("lose: bad ahead of nothing", -1002, x.lose(7, 4));
        due("lose: bad ahead of stuck", -1002, x.lose(SMALL, 4));
        due("lose: other ahead of stuck", -1003, x.lose(0, 1));
        due("lose: nothing ahead of stuck", -1004, x.lose(7, 1));
        due("quiet: bad ahead of nothing", -2, x.quiet(7, 0));
        due("holder: bad ahead of nothing", -2, x.holder(7, 1, 4));
        due("hangs: bad ahead of nothing", -2, x.hangs(7, 0));
        due("enough: bad ahead of nothing", -2, x.enough(7, 0));
        due("one: bad ahead of nothing", -2, x.one(7, 1, 51));
        due("says: bad ahead of nothing", -2, x.says(7, 7));
        due("pays: bad ahead of other", -2, x.pays(0, 4));
        Lives.refusals(checks, x, 13, 1, 1, 0, 0);
        NineDebts y = new NineDebts();
        due("head: bad ahead of stuck", -2, y.head(0));
        due("head: stuck", -5, y.head(60));
        y.row(0, 0, 1);
        y.rule(1, 1, 0);
        due("one: bad ahead of stuck", -2, y.one(1, 61, 0));
        due("one: other ahead of stuck", -3, y.one(0, 1, 0));
        due("one: stuck", -5, y.one(1, 60, 50));
        due("hangs: bad ahead of stuck", -2, y.hangs(1, 61));
        due("hangs: other ahead of stuck", -3, y.hangs(0, 1));
        due("hangs: stuck", -5, y.hangs(1, 60));
        due("all: bad ahead of stuck", -2, y.all(51));
        due("all: stuck", -5, y.all(50));
        Lives.refusals(checks, y, 4, 2, 0, 4, 0);
    }
}
