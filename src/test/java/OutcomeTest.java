/** Promises 23 to 26 and 28 to 34: runs, the best payments, and what would be if. */
final class OutcomeTest {
    private final Checks checks;

    private OutcomeTest(Checks checks) {
        this.checks = checks;
    }

    static void runAll(Checks checks) {
        OutcomeTest t = new OutcomeTest(checks);
        t.run();
        t.runRefused();
        t.head();
        t.best();
        t.bestWeeks();
        t.bestRefused();
        t.lose();
        t.quiet();
        t.offer();
        t.offerRefused();
        t.one();
        t.all();
        t.holder();
        t.hangs();
        t.enough();
        t.nine();
    }

    private void due(String what, long want, long got) {
        checks.same(what, want, got);
    }

    private void runs(NineDebts x, int n, int... due) {
        for (int what = 0; what < due.length; what++) {
            due("run(2, " + n + ", " + what + ")", due[what], x.run(2, n, what));
        }
    }

    private void run() {
        checks.begin("promise 23");
        NineDebts x = Lives.withRules("chance 0;debt 50 kind 0 rate 10 patience 1 bite 7 least 45", 0);
        runs(x, 1, 27, 7, 20, 40, -1, 0);
        runs(x, 2, 7, 7, 0, 60, 2, 20);
        runs(x, 3, 7, 7, 0, 60, 2, 60);
        runs(x, 60, 7, 7, 0, 60, 2, 2340);
        Lives.status(checks, x, 1, 1, 0, 0, 0, 50, 0, 1, 6, 10, 0);
        due("nothing was paid", 0, x.debtOf(0, 8));
        x.ask(2, 10);
        x.weeks(2, 1);
        due("harm that came ahead", 7, x.status(4));
        due("doesn't count", 0, x.run(2, 1, 1));
        due("paid ahead doesn't count", 20, x.run(2, 1, 3));
        x.weeks(2, 1);
        due("none is open from the start", 0, x.run(2, 5, 4));
        NineDebts y = Lives.withRules("income 0;purse 999", 0);
        y.ask(0, 9999);
        y.income(0, 50);
        due("purse, 9,999 at most", 9999, y.run(2, 1, 5));
        due("no debts at all", 0, y.run(2, 1, 4));
    }

    private void runRefused() {
        NineDebts x = Lives.withRules("debt 50 kind 0", 0);
        x.row(0, 0, 1);
        due("a bad shelf", -2, x.run(8, 1, 0));
        due("a bad shelf", -2, x.run(-1, 1, 0));
        due("no weeks", -2, x.run(1, 0, 0));
        due("too many, also by a row", -2, x.run(0, 61, 0));
        due("a bad what, also of nothing", -2, x.run(7, 1, 6));
        due("a bad what", -2, x.run(1, 1, -1));
        due("a row", -3, x.run(0, 1, 0));
        due("nothing", -4, x.run(7, 1, 0));
        Lives.refusals(checks, x, 6, 1, 1, 0, 0);
    }

    private void head() {
        checks.begin("promise 24");
        NineDebts x = Lives.of("income 10;debt 40 kind 0 rate 1 least 1;debt 40 kind 1 rate 50 least 1;debt 40 kind 5 least 1");
        due("no rule", -5, x.head(1));
        x.row(0, 0, 1);
        due("a row is none", -5, x.head(1));
        x.rule(3, 2, 0);
        due("the only one", 3, x.head(1));
        x.rule(7, 1, 0);
        due("DEAR: 126 less 5", 7, x.head(1));
        x.rule(5, 3, 0);
        due("of several the first", 5, x.head(1));
        due("the longest", 5, x.head(60));
        x.rule(0, 1, 0);
        due("shelf 0, too", 0, x.head(1));
        due("no weeks", -2, x.head(0));
        due("too many", -2, x.head(61));
        Lives.refusals(checks, x, 2, 0, 0, 2, 0);
    }

    private void pays(NineDebts x, int n, int loss, int... first) {
        due("best(" + n + ", NONE)", loss, x.best(n, -1));
        for (int d = 0; d < first.length; d++) {
            due("best(" + n + ", " + d + ")", first[d], x.best(n, d));
        }
    }

    private void best() {
        checks.begin("promise 25");
        NineDebts x = Lives.of("debt 25 kind 0 rate 20 patience 1 bite 50 least 10;debt 30 kind 5");
        pays(x, 1, 20, 25, 10);
        pays(Lives.of("debt 40 kind 5;debt 40 kind 5"), 1, 40, 0, 40);
        pays(Lives.of("debt 40 kind 0 patience 1 bite 9;debt 40 kind 0 patience 1 bite 9 least 10"), 1, 40, 10, 30);
        pays(Lives.of("chance 0;income 0;debt 40 kind 0 patience 1 bite 9"), 1, 49, 0);
        pays(Lives.of("income 9;debt 9 kind 5;debt 20 kind 5"), 1, 20, 9, 0);
        pays(Lives.of("income 9;debt 10 kind 5"), 1, 10, 0);
        pays(Lives.of("unit 3;income 8;debt 7 kind 5"), 1, 0, 7);
        pays(Lives.of("unit 1;income 5;debt 40 kind 5;debt 3 kind 0 rate 50"), 1, 38, 2, 3);
        pays(Lives.of("unit 1;income 3;debt 40 kind 5"), 1, 37, 3);
        pays(new NineDebts(), 1, 0);
        pays(Lives.of("unit 20"), 3, 0);
        NineDebts y = Lives.of("income 10;debt 40 kind 0 patience 1 bite 9");
        y.row(0, 0, 0);
        y.pay(0);
        due("harm that came ahead", 9, y.status(4));
        pays(y, 1, 20, 20);
        y.debt(5, 500, 0, 9, 0, 1);
        pays(y, 1, 520, 10, 10);
        due("nothing was done", 0, x.status(2));
    }

    private void bestWeeks() {
        NineDebts x = Lives.of("unit 20;debt 60 kind 2 rate 2;debt 60 kind 5 patience 1 bite 5");
        pays(x, 1, 80, 0, 40);
        pays(x, 2, 40, 0, 0);
        x.income(2, 20);
        pays(x, 3, 20, 0, 0);
        NineDebts y = Lives.of("unit 10;income 20;debt 20 kind 3 rate 1 patience 1 bite 30;debt 30 kind 1 rate 50");
        // 20 of 30; then all of the sleeper; then 20 of 22, and 1 by which the rest grows.
        pays(y, 3, 3, 0, 20);
    }

    private void bestRefused() {
        NineDebts x = Lives.of("debt 5 kind 0;debt 30 kind 0;debt 30 kind 0;debt 30 kind 0");
        due("four open", -5, x.best(1, -1));
        Lives.row(x, 0, 5);
        x.pay(0);
        x.ask(0, 29);
        due("69 by 10", 0, x.best(1, 0));
        x.ask(0, 30);
        due("70 by 10", -5, x.best(1, -1));
        x.ask(0, 0);
        due("80 by 10", -5, x.best(2, -1));
        x.ask(1, 12);
        due("80 by 12", 0, x.best(2, 0));
        due("120 by 12", -5, x.best(3, -1));
        x.income(3, 3);
        due("83 by 12", 0, x.best(3, 0));
        x.income(3, 4);
        due("84 by 12", -5, x.best(3, 0));
        due("no weeks", -2, x.best(0, -1));
        due("too many", -2, x.best(4, -1));
        due("no such debt", -2, x.best(1, 4));
        due("no such debt", -2, x.best(1, -2));
        Lives.refusals(checks, x, 4, 0, 0, 5, 0);
    }

    private void lose() {
        checks.begin("promise 26");
        NineDebts x = Lives.withRules("debt 25 kind 0 rate 20 patience 1 bite 50 least 10;debt 30 kind 5", 0);
        due("SMALL: 15 of 20, where unit is rough", -5, x.lose(2, 1));
        due("EVEN: 35 of 20", 15, x.lose(4, 1));
        x.rule(6, 6, 31);
        due("KEEP: 9 to the first: it bites not, 36, and 30", 50 + 66 - 20, x.lose(6, 1));
        x.row(0, 0, 1);
        due("no weeks", -1002, x.lose(2, 0));
        due("too many, also by a row", -1002, x.lose(0, 4));
        due("a bad shelf", -1002, x.lose(8, 1));
        due("a bad shelf", -1002, x.lose(-1, 1));
        due("a row, also where all is stuck", -1003, x.lose(0, 3));
        due("nothing, also where all is stuck", -1004, x.lose(7, 3));
        due("80 by 10", -1005, x.lose(2, 2));
        x.debt(0, 5, 0, 1, 1, 1);
        x.debt(0, 5, 0, 1, 1, 1);
        due("four open", -1005, x.lose(2, 1));
        Lives.refusals(checks, x, 4, 1, 1, 2, 0);
    }

    private void quiet() {
        checks.begin("promise 28");
        NineDebts x = Lives.withRules("income 0;debt 50 kind 0 patience 2 bite 5;debt 50 kind 0 patience 2 bite 9;"
                + "debt 50 kind 0 patience 2 bite 9", 0);
        due("none would bite", -1, x.quiet(2, 1));
        x.weeks(2, 1);
        due("of 5, 9 and 9 the first 9", 1, x.quiet(2, 1));
        due("in two weeks no letter does less", -1, x.quiet(2, 2));
        due("nothing was done", 0, x.debtOf(1, 7));
        x.write(1);
        due("not one that was written to", 2, x.quiet(2, 1));
        x.write(2);
        due("what is left", 0, x.quiet(2, 1));
        x.write(0);
        due("none is left", -1, x.quiet(2, 1));
        x.row(0, 0, 1);
        due("a bad shelf", -2, x.quiet(8, 1));
        due("no weeks", -2, x.quiet(2, 0));
        due("too many, also by a row", -2, x.quiet(0, 61));
        due("a row", -3, x.quiet(0, 1));
        due("nothing", -4, x.quiet(7, 1));
        Lives.refusals(checks, x, 3, 1, 1, 0, 0);
    }

    private void offer() {
        checks.begin("promise 29");
        NineDebts x = Lives.withRules("income 10;purse 20;debt 30 kind 0 rate 5;debt 40 kind 0 rate 6 patience 1 bite 3 least 7", 0);
        due("for 12: 18 left to pay the other with", 79 - 28 - 30, x.offer(2, 1, 0, 12));
        due("for nothing", 79 - 16 - 30, x.offer(2, 1, 0, 0));
        due("for all there is: 10 left to pay the other with", 79 - 36 - 30, x.offer(2, 1, 0, 20));
        due("the other one: 25 left", 79 - 10 - 30, x.offer(2, 1, 1, 5));
        due("nothing was done", 20, x.status(3));
        due("nothing was done", 70, x.status(5));
        NineDebts y = Lives.withRules("income 0;purse 20;debt 5 kind 5;debt 40 kind 1 rate 50 least 1", 0);
        // Without it 25 and 12 are lost and 20 paid; for 3, 23 and 11 are lost, and 17 and 3 paid.
        due("for 3", 57 - 54, y.offer(2, 1, 0, 3));
        due("for nothing", 57 - 50, y.offer(2, 1, 0, 0));
        due("for 7", 57 - 60, y.offer(2, 1, 0, 7));
        due("for 20", 57 - 80, y.offer(2, 1, 0, 20));
    }

    private void offerRefused() {
        NineDebts x = Lives.withRules("purse 20;debt 30 kind 5;debt 20 kind 5", 0);
        x.row(0, 0, 1);
        due("a bad shelf", -1000002, x.offer(8, 1, 0, 5));
        due("a bad shelf", -1000002, x.offer(-1, 1, 0, 5));
        due("no weeks", -1000002, x.offer(2, 0, 0, 5));
        due("too many", -1000002, x.offer(2, 61, 0, 5));
        due("no such debt", -1000002, x.offer(2, 1, 2, 5));
        due("less than nothing", -1000002, x.offer(2, 1, 0, -1));
        due("more than the purse, also by a row", -1000002, x.offer(0, 1, 0, 21));
        due("more than the purse, also by nothing", -1000002, x.offer(7, 1, 0, 21));
        due("a row", -1000003, x.offer(0, 1, 0, 20));
        due("nothing", -1000004, x.offer(7, 1, 0, 20));
        x.weeks(2, 1);
        due("more than the purse, also of one that isn't open", -1000002, x.offer(2, 1, 1, 500));
        due("one that isn't open", -1000005, x.offer(2, 1, 1, 0));
        due("nothing ahead of it", -1000004, x.offer(7, 1, 1, 0));
        x.ask(0, 9999);
        due("too much", -1000002, x.offer(2, 1, 0, 10000));
        NineDebts y = Lives.withRules("purse 20;debt 9 kind 5;debt 9 kind 5;debt 9 kind 5", 0);
        Lives.row(y, 0, 0, 9);
        y.pay(0);
        due("one that isn't open, for something", -1000005, y.offer(2, 1, 1, 5));
        due("the one ahead of it", 4, y.offer(2, 1, 0, 5));
        due("the one behind it", 4, y.offer(2, 1, 2, 5));
        Lives.row(y, 0, 9);
        y.pay(0);
        due("the first one, for something", -1000005, y.offer(2, 1, 0, 1));
        due("the last one", 8, y.offer(2, 1, 2, 1));
        Lives.refusals(checks, x, 10, 1, 2, 1, 0);
    }

    private void one() {
        checks.begin("promise 30");
        NineDebts x = Lives.withRules("debt 9 kind 0;debt 30 kind 0 rate 40;debt 20 kind 5 patience 1", 0);
        due("59 less 40, and 20 of 100", 19 + 3, x.one(2, 1, 20));
        due("59 less 40", 19, x.one(2, 1, 0));
        due("and 50 of 100", 19 + 9, x.one(2, 1, 50));
        due("nothing was done", 3, x.status(1));
        NineDebts y = Lives.withRules("income 0;debt 9 kind 0;debt 41 kind 5 patience 1 bite 99", 0);
        y.weeks(2, 1);
        due("two weeks without payment", 50, y.one(2, 2, 0));
        due("three: 10 for the bite", 60, y.one(2, 3, 0));
        due("six", 70, y.one(2, 6, 0));
        y.row(0, 0, 1);
        due("a bad shelf", -2, y.one(8, 1, 0));
        due("no weeks", -2, y.one(2, 0, 0));
        due("too many", -2, y.one(2, 61, 0));
        due("a bad rate, also by a row", -2, y.one(0, 1, 51));
        due("a bad rate", -2, y.one(2, 1, -1));
        due("a row", -3, y.one(0, 1, 0));
        due("nothing", -4, y.one(7, 1, 0));
        NineDebts z = Lives.withRules("unit 10", 0);
        due("none is open", -5, z.one(2, 1, 0));
        due("nothing ahead of it", -4, z.one(0, 1, 0));
        due("none is open any more", -5, paidOff().one(2, 1, 0));
        Lives.refusals(checks, y, 5, 1, 1, 0, 0);
    }

    /** Debts there are, but all are paid off. */
    private static NineDebts paidOff() {
        NineDebts x = Lives.withRules("debt 9 kind 5;debt 31 kind 5", 0);
        x.weeks(2, 1);
        return x;
    }

    private void row(NineDebts x, int d, int... due) {
        for (int what = 0; what < due.length; what++) {
            due("debtOf(" + d + ", " + what + ")", due[what], x.debtOf(d, what));
        }
    }

    private void all() {
        checks.begin("promise 31");
        NineDebts x = Lives.of("income 9;debt 5 kind 0 least 1;debt 30 kind 4 rate 4 patience 8 bite 9 least 6;debt 20 kind 5 least 9");
        Lives.row(x, 0, 5, 4);
        x.pay(0);
        x.write(1);
        due("the first open one's place", 1, x.all(7));
        row(x, 0, 0, 0, 0, 3, 10, 1, 0, 0, 5);
        row(x, 1, 1, 50, 7, 3, 10, 5, 0, 0, 0);
        row(x, 2, 5, 0, 0, 3, 10, 9, 1, 0, 0);
        due("open", 1, x.status(1));
        due("debts", 3, x.status(0));
        due("again", 1, x.all(50));
        due("its rate", 50, x.debtOf(1, 2));
        due("a bad rate", -2, x.all(51));
        due("a bad rate", -2, x.all(-1));
        NineDebts y = new NineDebts();
        due("none is open", -5, y.all(0));
        due("bad ahead of it", -2, y.all(51));
        Lives.refusals(checks, y, 1, 0, 0, 1, 0);
        NineDebts w = paidOff();
        due("none is open any more", -5, w.all(0));
        due("its kind stays", 5, w.debtOf(0, 0));
        Lives.refusals(checks, w, 0, 0, 0, 1, 0);
        NineDebts z = Lives.of("income 0;debt 999 kind 2 rate 1;debt 999 kind 2 rate 1");
        z.rule(0, 2, 0);
        z.weeks(0, 4);
        due("sums", 19998, z.status(5));
        z.all(0);
        due("9,999 at most", 9999, z.status(5));
        NineDebts v = new NineDebts();
        for (int d = 0; d < 9; d++) {
            v.debt(d % 6, 10 + d, 5, 2, 3, 4);
        }
        v.seed(77);
        due("nine into one", 0, v.all(6));
        row(v, 0, 1, 126, 6, 3, 10, 5, 0, 0, 0);
        for (int d = 1; d < 9; d++) {
            row(v, d, d % 6, 0, 5, 2, 3, 4, 0, 0, 0);
        }
    }

    private void holder() {
        checks.begin("promise 32");
        NineDebts x = Lives.withRules("debt 30 kind 5;debt 90 kind 5", 0);
        due("the first", 30, x.holder(2, 1, 0));
        due("the second", 10, x.holder(2, 1, 1));
        due("in two weeks", 50, x.holder(2, 2, 1));
        due("in all", 90, x.holder(2, 60, 1));
        x.weeks(2, 1);
        due("what was paid ahead doesn't count", 0, x.holder(2, 9, 0));
        due("what is still to come", 80, x.holder(2, 9, 1));
        due("nothing was done", 10, x.debtOf(1, 8));
        x.row(0, 0, 1);
        due("a bad shelf", -2, x.holder(8, 1, 0));
        due("no weeks", -2, x.holder(2, 0, 0));
        due("too many", -2, x.holder(2, 61, 0));
        due("no such debt, also by a row", -2, x.holder(0, 1, 2));
        due("no such debt", -2, x.holder(2, 1, -1));
        due("a row", -3, x.holder(0, 1, 0));
        due("nothing", -4, x.holder(7, 1, 0));
        Lives.refusals(checks, x, 5, 1, 1, 0, 0);
    }

    private void hangs() {
        checks.begin("promise 33");
        NineDebts x = Lives.withRules("income 0;debt 50 kind 5 bite 0;debt 40 kind 0 rate 6 patience 1 bite 9;"
                + "debt 10 kind 1 rate 50 bite 0", 0);
        due("one week: 50, 55 or 15", 1, x.hangs(2, 1));
        due("nothing was done", 100, x.status(5));
        NineDebts w = Lives.withRules("income 0;debt 50 kind 5;debt 40 kind 5", 0);
        due("the first of all", 0, w.hangs(2, 1));
        w.write(0);
        due("written to or not", 0, w.hangs(2, 1));
        NineDebts y = Lives.withRules("income 9;debt 9 kind 5;debt 50 kind 5 bite 0;debt 50 kind 5 bite 0", 0);
        y.weeks(2, 1);
        due("of two alike the first, and not one that isn't open", 1, y.hangs(2, 1));
        y.row(0, 0, 1);
        due("a bad shelf", -2, y.hangs(8, 1));
        due("no weeks", -2, y.hangs(2, 0));
        due("too many, also by a row", -2, y.hangs(0, 61));
        due("a row", -3, y.hangs(0, 1));
        due("nothing", -4, y.hangs(7, 1));
        Lives.refusals(checks, y, 3, 1, 1, 0, 0);
        y.weeks(2, 1);
        y.income(2, 99);
        due("nothing is lost with any or without: the first that is open", 1, y.hangs(2, 1));
        NineDebts z = Lives.withRules("unit 10", 0);
        due("none is open", -5, z.hangs(2, 1));
        due("nothing ahead of it", -4, z.hangs(0, 1));
        due("none is open any more", -5, paidOff().hangs(2, 1));
    }

    /** Each call with as many debts as there can be. */
    private void nine() {
        checks.begin("nine debts");
        NineDebts x = Lives.withRules("income 20", 0);
        for (int d = 0; d < 9; d++) {
            x.debt(5, 10, 0, 1, d, 10);
        }
        int[] says = {0, 0, 0, 2, 90, 0};
        int[] paid = {0, 0, 0, 2, 0, 0};
        for (int s = 1; s <= 6; s++) {
            due("says(" + s + ")", says[s - 1], x.says(s, s));
            due("pays(" + s + ", 8)", paid[s - 1], x.pays(s, 8));
        }
        due("five weeks are enough", 5, x.run(2, 9, 4));
        due("five bite in week 1, the last once more in week 3", 4 + 5 + 6 + 7 + 8 + 8, x.run(2, 9, 0));
        due("quiet: none has weeks yet", -1, x.quiet(2, 9));
        due("hangs", 8, x.hangs(2, 9));
        due("holder", 10, x.holder(2, 9, 8));
        due("enough", 90, x.enough(2, 1));
        due("offer: 8, 8 and the 10 paid", 26, x.offer(2, 9, 8, 0));
        due("one", 0, x.one(2, 9, 0));
        due("head", 1, x.head(9));
        due("best", -5, x.best(1, -1));
        Lives.row(x, 0, 1, 1, 1, 1, 1, 1, 1, 1, 1);
        due("judge", -1, x.judge(0));
        due("pay", 9, x.pay(0));
        due("quiet: of those that bite now the worst", 8, x.quiet(6, 1));
        due("weeks: nine times a ninth of 31, cut", 27, x.weeks(4, 1));
        due("image", 1, x.image());
        due("all", 0, x.all(0));
        due("back", 1, x.back());
        due("sums", 81 - 27, x.status(5));
    }

    private void enough() {
        checks.begin("promise 34");
        NineDebts x = Lives.withRules("income 3;debt 50 kind 5", 0);
        due("one week", 50, x.enough(2, 1));
        due("two weeks", 25, x.enough(2, 2));
        due("three weeks: 16.7", 17, x.enough(2, 3));
        x.ask(0, 20);
        due("with 20 ahead", 15, x.enough(2, 2));
        x.ask(0, 50);
        due("with all ahead", 0, x.enough(2, 1));
        due("nothing was done", 3, x.income(0, 3));
        NineDebts y = Lives.withRules("debt 99 kind 5;debt 1 kind 0", 0);
        due("100 in one week", -1, y.enough(2, 1));
        y.ask(0, 1);
        due("99 in one week", 99, y.enough(2, 1));
        y.ask(0, 0);
        y.rule(6, 6, 10);
        due("10 more, as 10 stay", 55, y.enough(6, 2));
        NineDebts z = Lives.withRules("unit 10", 0);
        due("none is open", 0, z.enough(2, 1));
        z.row(0, 0, 1);
        due("a bad shelf", -2, z.enough(8, 1));
        due("no weeks", -2, z.enough(2, 0));
        due("too many, also by a row", -2, z.enough(0, 61));
        due("a row", -3, z.enough(0, 1));
        due("nothing", -4, z.enough(7, 1));
        Lives.refusals(checks, z, 3, 1, 1, 0, 0);
    }
}
