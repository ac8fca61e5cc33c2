/** Each number that a call takes, far from what may be; and that what is refused or only asked changes nothing. */
final class FarTest {
    private static final int[] FAR = {Integer.MIN_VALUE, Integer.MIN_VALUE + 1, -1000000, -65536, -256, -2, 10000,
        65536, 1 << 30, Integer.MAX_VALUE - 1, Integer.MAX_VALUE};
    private static final int BAD = -2;

    private interface Call {
        long on(NineDebts x, int v);
    }

    private final Checks checks;

    private FarTest(Checks checks) {
        this.checks = checks;
    }

    static void runAll(Checks checks) {
        FarTest t = new FarTest(checks);
        checks.begin("far numbers");
        t.farShelves();
        t.farRows();
        t.farDebts();
        t.farWeeks();
        t.farOutcomes();
        t.farUnrefused();
        checks.begin("what changes nothing");
        t.refused();
        t.asked();
    }

    /** Shelf 0 holds a row, 1 to 6 rules, 7 nothing; two debts, something kept and something on the tape. */
    private static NineDebts ready() {
        NineDebts x = Lives.withRules("purse 5;income 9 of 5;unit 20;chance 5;debt 20 kind 0 rate 3;debt 15 kind 1 rate 10", 7);
        x.image();
        Lives.row(x, 0, 1, 2, 3);
        x.pay(0);
        x.write(1);
        Lives.feed(x, "unit 3");
        return x;
    }

    /** How often all was refused behind one more refusal; nothing is refused ahead of it. */
    private static String once(int number) {
        StringBuilder text = new StringBuilder();
        for (int k = BAD; k >= -6; k--) {
            text.append(k == number ? 1 : 0).append(' ');
        }
        return text.toString();
    }

    /** One call on a new object that changes nothing: its answer, and which number it is counted as, 0 for none. */
    private void one(String what, long due, int number, Call call, int v) {
        NineDebts x = ready();
        String before = Lives.picture(x);
        checks.same(what, due, call.on(x, v));
        checks.yes(what + " is counted", Lives.refusals(x).equals(once(number)));
        checks.yes(what + " changes nothing", Lives.picture(x).equals(before));
    }

    private void far(String what, long due, int number, Call call) {
        for (int v : FAR) {
            one(what + " with " + v, due, number, call, v);
        }
    }

    private void bad(String what, Call call) {
        far(what, BAD, BAD, call);
    }

    private void farShelves() {
        bad("row s", (x, v) -> x.row(v, 0, 1));
        bad("row sort", (x, v) -> x.row(0, v, 1));
        bad("row n", (x, v) -> x.row(0, 0, v));
        bad("set s", (x, v) -> x.set(v, 0, 1));
        bad("set i", (x, v) -> x.set(0, v, 1));
        bad("rule s", (x, v) -> x.rule(v, 1, 0));
        bad("rule kind", (x, v) -> x.rule(0, v, 0));
        bad("rule a", (x, v) -> x.rule(0, 1, v));
        bad("says s", (x, v) -> x.says(v, 0));
        bad("says kind", (x, v) -> x.says(1, v));
    }

    private void farRows() {
        bad("copy p", (x, v) -> x.copy(v, 0, 0, 0, 1));
        bad("copy q", (x, v) -> x.copy(0, v, 0, 0, 1));
        bad("copy i", (x, v) -> x.copy(0, 0, v, 0, 1));
        bad("copy j", (x, v) -> x.copy(0, 0, 0, v, 1));
        bad("copy n", (x, v) -> x.copy(0, 0, 0, 0, v));
        bad("copy n from the last", (x, v) -> x.copy(0, 0, 2, 2, v));
        bad("copy none from far", (x, v) -> x.copy(0, 0, v, 0, 0));
        bad("copy none to far", (x, v) -> x.copy(0, 0, 0, v, 0));
        bad("copy all far", (x, v) -> x.copy(0, 0, v, v, v));
        bad("pay s", (x, v) -> x.pay(v));
        bad("judge s", (x, v) -> x.judge(v));
    }

    private void farDebts() {
        bad("debt kind", (x, v) -> x.debt(v, 1, 0, 1, 0, 1));
        bad("debt sum", (x, v) -> x.debt(0, v, 0, 1, 0, 1));
        bad("debt rate", (x, v) -> x.debt(0, 1, v, 1, 0, 1));
        bad("debt patience", (x, v) -> x.debt(0, 1, 0, v, 0, 1));
        bad("debt bite", (x, v) -> x.debt(0, 1, 0, 1, v, 1));
        bad("debt least", (x, v) -> x.debt(0, 1, 0, 1, 0, v));
        bad("debtOf debt", (x, v) -> x.debtOf(v, 0));
        bad("debtOf what", (x, v) -> x.debtOf(0, v));
        bad("alter debt", (x, v) -> x.alter(v, 0, 1));
        bad("alter what", (x, v) -> x.alter(0, v, 1));
        for (int what = 0; what <= 3; what++) {
            int w = what;
            bad("alter v of " + what, (x, v) -> x.alter(0, w, v));
        }
        bad("income w", (x, v) -> x.income(v, 1));
        bad("income v", (x, v) -> x.income(0, v));
        bad("ask what", (x, v) -> x.ask(v, 1));
        for (int what = 0; what <= 2; what++) {
            int w = what;
            bad("ask v of " + what, (x, v) -> x.ask(w, v));
        }
        bad("feed n", (x, v) -> x.feed(1, v));
        bad("grows debt", (x, v) -> x.grows(v));
        bad("bites debt", (x, v) -> x.bites(v));
        bad("write debt", (x, v) -> x.write(v));
    }

    private void farWeeks() {
        bad("pays s", (x, v) -> x.pays(v, 0));
        bad("pays debt", (x, v) -> x.pays(1, v));
        bad("weeks s", (x, v) -> x.weeks(v, 1));
        bad("weeks n", (x, v) -> x.weeks(1, v));
        bad("run s", (x, v) -> x.run(v, 1, 0));
        bad("run n", (x, v) -> x.run(1, v, 0));
        bad("run what", (x, v) -> x.run(1, 1, v));
        bad("head n", (x, v) -> x.head(v));
        bad("best n", (x, v) -> x.best(v, 0));
        bad("best what", (x, v) -> x.best(1, v));
        bad("all rate", (x, v) -> x.all(v));
    }

    private void farOutcomes() {
        far("lose s", -1002, BAD, (x, v) -> x.lose(v, 1));
        far("lose n", -1002, BAD, (x, v) -> x.lose(1, v));
        bad("quiet s", (x, v) -> x.quiet(v, 1));
        bad("quiet n", (x, v) -> x.quiet(1, v));
        far("offer s", -1000002, BAD, (x, v) -> x.offer(v, 1, 0, 0));
        far("offer n", -1000002, BAD, (x, v) -> x.offer(1, v, 0, 0));
        far("offer debt", -1000002, BAD, (x, v) -> x.offer(1, 1, v, 0));
        far("offer v", -1000002, BAD, (x, v) -> x.offer(1, 1, 0, v));
        bad("one s", (x, v) -> x.one(v, 1, 0));
        bad("one n", (x, v) -> x.one(1, v, 0));
        bad("one rate", (x, v) -> x.one(1, 1, v));
        bad("holder s", (x, v) -> x.holder(v, 1, 0));
        bad("holder n", (x, v) -> x.holder(1, v, 0));
        bad("holder debt", (x, v) -> x.holder(1, 1, v));
        bad("hangs s", (x, v) -> x.hangs(v, 1));
        bad("hangs n", (x, v) -> x.hangs(1, v));
        bad("enough s", (x, v) -> x.enough(v, 1));
        bad("enough n", (x, v) -> x.enough(1, v));
    }

    /** What answers far numbers without refusing them. */
    private void farUnrefused() {
        far("element s", 0, 0, (x, v) -> x.element(v, 0));
        far("element i", 0, 0, (x, v) -> x.element(0, v));
        far("element both", 0, 0, (x, v) -> x.element(v, v));
        far("holds s", -1, 0, (x, v) -> x.holds(v));
        far("status what", -1, 0, (x, v) -> x.status(v));
        for (int v : FAR) {
            NineDebts x = ready();
            checks.same("feed any v", 10, x.feed(v, 4));
            int seed = x.status(7);
            checks.same("seed any v", seed, x.seed(v));
            checks.same("the seed then", v, x.status(7));
            checks.yes("nothing is refused", Lives.refusals(x).equals(once(0)));
        }
    }

    /** Each call that is refused for something else than a bad number: shelf 0 holds a row, shelf 7 nothing. */
    private void refused() {
        Call[] other = {(x, v) -> x.set(1, 0, 1), (x, v) -> x.copy(1, 0, 0, 0, 1), (x, v) -> x.copy(0, 1, 0, 0, 1),
            (x, v) -> x.says(0, 0), (x, v) -> x.says(1, 2), (x, v) -> x.pays(0, 0), (x, v) -> x.weeks(0, 1),
            (x, v) -> x.pay(1), (x, v) -> x.judge(1), (x, v) -> x.run(0, 1, 0), (x, v) -> x.quiet(0, 1),
            (x, v) -> x.one(0, 1, 0), (x, v) -> x.holder(0, 1, 0), (x, v) -> x.hangs(0, 1), (x, v) -> x.enough(0, 1)};
        for (int k = 0; k < other.length; k++) {
            one("OTHER " + k, -3, -3, other[k], 0);
        }
        Call[] nothing = {(x, v) -> x.set(7, 0, 1), (x, v) -> x.copy(7, 0, 0, 0, 1), (x, v) -> x.copy(0, 7, 0, 0, 1),
            (x, v) -> x.copy(7, 7, 0, 0, 0), (x, v) -> x.says(7, 0), (x, v) -> x.pays(7, 0), (x, v) -> x.weeks(7, 1),
            (x, v) -> x.pay(7), (x, v) -> x.judge(7), (x, v) -> x.run(7, 1, 0), (x, v) -> x.quiet(7, 1),
            (x, v) -> x.one(7, 1, 0), (x, v) -> x.holder(7, 1, 0), (x, v) -> x.hangs(7, 1), (x, v) -> x.enough(7, 1)};
        for (int k = 0; k < nothing.length; k++) {
            one("NOTHING " + k, -4, -4, nothing[k], 0);
        }
        one("lose by a row", -1003, -3, (x, v) -> x.lose(0, 1), 0);
        one("lose by nothing", -1004, -4, (x, v) -> x.lose(7, 1), 0);
        one("lose of too much", -1005, -5, (x, v) -> x.lose(1, v), 3);
        one("best of too much", -5, -5, (x, v) -> x.best(v, 0), 3);
        one("offer by a row", -1000003, -3, (x, v) -> x.offer(0, 1, 0, 0), 0);
        one("offer by nothing", -1000004, -4, (x, v) -> x.offer(7, 1, 0, 0), 0);
        one("a second letter", -5, -5, (x, v) -> x.write(v), 1);
    }

    /** What is only asked, and what would be if: nothing is done, and no draw is made. */
    private void asked() {
        Call[] calls = {(x, v) -> x.says(v, v), (x, v) -> x.grows(1), (x, v) -> x.bites(1), (x, v) -> x.pays(v, 1),
            (x, v) -> x.judge(0), (x, v) -> x.run(v, 60, 0), (x, v) -> x.head(60), (x, v) -> x.best(1, -1),
            (x, v) -> x.best(2, 1), (x, v) -> x.lose(v, 1), (x, v) -> x.quiet(v, 9), (x, v) -> x.offer(v, 9, 1, 4),
            (x, v) -> x.one(v, 9, 50), (x, v) -> x.holder(v, 9, 1), (x, v) -> x.hangs(v, 9), (x, v) -> x.enough(v, 9),
            (x, v) -> x.element(0, 2), (x, v) -> x.holds(v)};
        NineDebts y = ready();
        y.back();
        String kept = Lives.picture(y);
        for (int k = 0; k < calls.length; k++) {
            for (int s = 1; s <= 6; s++) {
                NineDebts x = ready();
                String before = Lives.picture(x);
                calls[k].on(x, s);
                String what = "call " + k + " by rule " + s;
                checks.yes(what + " isn't refused", Lives.refusals(x).equals(once(0)));
                checks.yes(what + " changes nothing", Lives.picture(x).equals(before));
                x.back();
                checks.yes(what + " leaves what was kept", Lives.picture(x).equals(kept));
            }
        }
    }
}
