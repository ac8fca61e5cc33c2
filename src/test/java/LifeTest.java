/** Promises 9 to 18: debts, incomes, the tape, and what a debt does next. */
final class LifeTest {
    private final Checks checks;

    private LifeTest(Checks checks) {
        this.checks = checks;
    }

    static void runAll(Checks checks) {
        LifeTest t = new LifeTest(checks);
        t.debt();
        t.debtOf();
        t.alter();
        t.income();
        t.ask();
        t.feed();
        t.wipe();
        t.life();
        t.lifeDebts();
        t.lifeFaults();
        t.lifeRoom();
        t.grows();
        t.bites();
    }

    private void due(String what, long want, long got) {
        checks.same(what, want, got);
    }

    private void row(NineDebts x, int d, int... due) {
        for (int what = 0; what < due.length; what++) {
            due("debtOf(" + d + ", " + what + ")", due[what], x.debtOf(d, what));
        }
    }

    private void debt() {
        checks.begin("promise 9");
        NineDebts x = new NineDebts();
        due("the first", 0, x.debt(0, 1, 0, 1, 0, 1));
        due("the second", 1, x.debt(5, 999, 50, 9, 99, 99));
        row(x, 0, 0, 1, 0, 1, 0, 1, 0, 0, 0);
        row(x, 1, 5, 999, 50, 9, 99, 99, 0, 0, 0);
        int[][] bad = {{-1, 1, 0, 1, 0, 1}, {6, 1, 0, 1, 0, 1}, {0, 0, 0, 1, 0, 1}, {0, 1000, 0, 1, 0, 1},
            {0, 1, -1, 1, 0, 1}, {0, 1, 51, 1, 0, 1}, {0, 1, 0, 0, 0, 1}, {0, 1, 0, 10, 0, 1},
            {0, 1, 0, 1, -1, 1}, {0, 1, 0, 1, 100, 1}, {0, 1, 0, 1, 0, 0}, {0, 1, 0, 1, 0, 100}};
        for (int[] b : bad) {
            due(java.util.Arrays.toString(b), -2, x.debt(b[0], b[1], b[2], b[3], b[4], b[5]));
        }
        for (int d = 2; d < 9; d++) {
            due("debt " + d, d, x.debt(0, 5, 0, 3, 9, 5));
        }
        due("full", -6, x.debt(0, 5, 0, 3, 9, 5));
        due("bad ahead of full", -2, x.debt(9, 5, 0, 3, 9, 5));
        due("nine", 9, x.status(0));
        Lives.refusals(checks, x, 13, 0, 0, 0, 1);
    }

    private void debtOf() {
        checks.begin("promise 10");
        NineDebts x = new NineDebts();
        x.debt(4, 50, 7, 2, 11, 20);
        Lives.row(x, 0, 15);
        x.pay(0);
        row(x, 0, 4, 42, 7, 2, 11, 20, 1, 0, 15);
        x.write(0);
        x.pay(0);
        row(x, 0, 4, 34, 7, 2, 11, 20, 1, 1, 30);
        due("no such debt", -2, x.debtOf(1, 0));
        due("no such debt", -2, x.debtOf(-1, 0));
        due("no such thing", -2, x.debtOf(0, 9));
        due("no such thing", -2, x.debtOf(0, -1));
        Lives.refusals(checks, x, 4, 0, 0, 0, 0);
    }

    private void alter() {
        checks.begin("promise 11");
        NineDebts x = new NineDebts();
        x.debt(0, 50, 7, 2, 11, 20);
        int[] was = {7, 2, 11, 20};
        int[] low = {0, 1, 0, 1};
        int[] high = {50, 9, 99, 99};
        for (int what = 0; what < 4; what++) {
            due("what it was", was[what], x.alter(0, what, low[what]));
            due("the least", low[what], x.debtOf(0, 2 + what));
            due("too little", -2, x.alter(0, what, low[what] - 1));
            due("the most", low[what], x.alter(0, what, high[what]));
            due("too much", -2, x.alter(0, what, high[what] + 1));
            due("the most", high[what], x.debtOf(0, 2 + what));
        }
        due("no such debt", -2, x.alter(1, 0, 5));
        x.debt(3, 60, 8, 4, 13, 22);
        int[] wasToo = {8, 4, 13, 22};
        for (int what = 0; what < 4; what++) {
            due("what another's was", wasToo[what], x.alter(1, what, 3));
            due("what it is", 3, x.debtOf(1, 2 + what));
        }
        due("no such thing", -2, x.alter(0, 4, 5));
        due("no such thing", -2, x.alter(0, -1, 5));
        row(x, 0, 0, 50, 50, 9, 99, 99, 0, 0, 0);
        Lives.refusals(checks, x, 11, 0, 0, 0, 0);
    }

    private void income() {
        checks.begin("promise 12");
        NineDebts x = new NineDebts();
        due("the first", 40, x.income(0, 0));
        due("again", 0, x.income(0, 99));
        due("the last", 40, x.income(11, 7));
        due("no such week", -2, x.income(12, 7));
        due("no such week", -2, x.income(-1, 7));
        due("too much", -2, x.income(0, 100));
        due("too little", -2, x.income(0, -1));
        due("what it was", 99, x.income(0, 1));
        x.rule(0, 2, 0);
        x.weeks(0, 13);
        due("1 in weeks 0 and 12, 7 in week 11, 40 in ten", 409, x.status(3));
        Lives.refusals(checks, x, 4, 0, 0, 0, 0);
    }

    private void ask() {
        checks.begin("promise 13");
        NineDebts x = new NineDebts();
        int[] was = {0, 10, 10};
        int[] low = {0, 1, 0};
        int[] high = {9999, 50, 10};
        int[] status = {3, 9, 10};
        for (int what = 0; what < 3; what++) {
            due("what it was", was[what], x.ask(what, low[what]));
            due("too little", -2, x.ask(what, low[what] - 1));
            due("the most", low[what], x.ask(what, high[what]));
            due("too much", -2, x.ask(what, high[what] + 1));
            due("the most", high[what], x.status(status[what]));
            due("what it was", high[what], x.ask(what, 7));
            due("what it is", 7, x.status(status[what]));
        }
        due("no such thing", -2, x.ask(3, 5));
        due("no such thing", -2, x.ask(-1, 5));
        Lives.refusals(checks, x, 8, 0, 0, 0, 0);
    }

    private void feed() {
        checks.begin("promise 14");
        NineDebts x = new NineDebts();
        due("four, the highest first: purs", 4, x.feed(0x70757273, 4));
        due("one, the lowest: e", 5, x.feed(0x7f7f7f65, 1));
        due("two: blank, 4", 7, x.feed(0x2034, 2));
        due("three: 2, blanks", 10, x.feed(0x7f322020, 3));
        due("life()", 1, x.life());
        due("purse", 42, x.status(3));
        due("none", -2, x.feed(0, 0));
        due("five", -2, x.feed(0, 5));
        for (int k = 0; k < 62; k++) {
            x.feed(0x20202020, 4);
        }
        due("three more than there is room for one less", -6, x.feed(0, 3));
        due("two more", 250, x.feed(0, 2));
        due("full", -6, x.feed(0, 1));
        due("bad ahead of full", -2, x.feed(0, 9));
        due("size", 250, x.status(6));
        Lives.refusals(checks, x, 3, 0, 0, 0, 2);
    }

    private void wipe() {
        checks.begin("promise 15");
        NineDebts x = new NineDebts();
        due("an empty one", 0, x.wipe());
        Lives.feed(x, "unit 5");
        due("its size", 6, x.wipe());
        due("empty", 0, x.status(6));
        due("nothing to read", -20, x.life());
        due("unit", 10, x.status(9));
    }

    private void life() {
        checks.begin("promise 16");
        NineDebts x = new NineDebts();
        due("all sorts", 5, Lives.read(x, "purse 999;income 7;income 9 of 11;unit 50;chance 0"));
        due("empty then", 0, x.status(6));
        due("purse", 999, x.status(3));
        due("unit", 50, x.status(9));
        due("chance", 0, x.status(10));
        for (int w = 0; w < 12; w++) {
            due("income " + w, w == 11 ? 9 : 7, x.income(w, 40));
        }
        due("blanks anywhere, or none", 3, Lives.read(x, "  purse5 ;unit  1;income3of2  "));
        due("purse", 5, x.status(3));
        due("unit", 1, x.status(9));
        due("income 2", 3, x.income(2, 0));
        due("income 3", 40, x.income(3, 40));
        due("the lowest", 4, Lives.read(x, "purse 000;income 0;unit 001;chance 10"));
        due("purse", 0, x.status(3));
        due("the last one told counts", 2, Lives.read(x, "income 5 of 0;income 6"));
        due("income 0", 6, x.income(0, 0));
    }

    private void lifeDebts() {
        NineDebts x = new NineDebts();
        x.debt(0, 5, 0, 3, 9, 5);
        due("debts", 3, Lives.read(x, "debt 999 kind 5 rate 50 patience 9 bite 99 least 99; debt 1kind0;"
                + "debt 7 kind 3 patience 4 least 6"));
        row(x, 1, 5, 999, 50, 9, 99, 99, 0, 0, 0);
        row(x, 2, 0, 1, 0, 3, 10, 5, 0, 0, 0);
        row(x, 3, 3, 7, 0, 4, 10, 6, 0, 0, 0);
        due("four", 4, x.status(0));
    }

    private void fault(int at, String text) {
        NineDebts x = Lives.of("purse 3;unit 4;chance 5;income 6");
        due("the fault of \"" + text + "\"", -20 - at, Lives.read(x, text));
        Lives.status(checks, x, 0, 0, 0, 3, 0, 0, 0, 1, 0, 4, 5);
        due("income 0", 6, x.income(0, 6));
        due("income 11", 6, x.income(11, 6));
        Lives.refusals(checks, x, 1, 0, 0, 0, 0);
    }

    private void lifeFaults() {
        fault(0, "");
        fault(2, "  ");
        fault(0, ";");
        fault(8, "purse 5;");
        fault(10, "purse 5;  ");
        fault(8, "purse 5 unit 3");
        fault(8, "purse 5;;unit 3");
        fault(5, "purse");
        fault(6, "purse ;unit 3");
        fault(6, "purse unit");
        fault(6, "purse 1000");
        fault(6, "purse 0005");
        fault(0, "purses 5");
        fault(0, "Purse 5");
        fault(6, "purse -5");
        fault(7, "purse 5.");
        fault(8, "purse 5 6");
        fault(0, "5");
        fault(0, "kind 3");
        fault(13, "income 5;unit0");
        fault(5, "unit 51");
        fault(7, "chance 11");
        fault(7, "income 100");
        fault(12, "income 9 of 12");
        fault(11, "income 9 of");
        fault(9, "income 9 off 2");
        fault(9, "income 9 in 2");
        fault(15, "income 9 of 1  of 2");
        fault(5, "debt 0 kind 1");
        fault(5, "debt 1000 kind 1");
        fault(7, "debt 5 rate 3");
        fault(6, "debt 5");
        fault(12, "debt 5 kind 6");
        fault(11, "debt 5 kind");
        fault(7, "debt 5 3");
        fault(6, "chance");
        fault(7, "chance ;unit 3");
        fault(7, "income of 3");
        fault(0, "nurse 5");
        fault(0, "pursez 5");
        fault(19, "debt 5 kind 0 rate 51");
        fault(23, "debt 5 kind 0 patience 0");
        fault(23, "debt 5 kind 0 patience 10");
        fault(19, "debt 5 kind 0 bite 100");
        fault(20, "debt 5 kind 0 least 0");
        fault(21, "debt 5 kind 0 bite 3 rate 3");
        fault(21, "debt 5 kind 0 rate 3 rate 3");
        fault(22, "debt 5 kind 0 least 3 bite 3");
        fault(14, "debt 5 kind 0 debt 5 kind 0");
        fault(33, "debt 5 kind 0; purse 7; income 3;\tunit 5");
        fault(4, "debt\u00e95 kind 0");
    }

    private void lifeRoom() {
        NineDebts x = new NineDebts();
        for (int d = 0; d < 8; d++) {
            x.debt(0, 5, 0, 3, 9, 5);
        }
        due("no room: its word, ahead of what is wrong behind it", -36,
                Lives.read(x, "debt 5 kind 0;  debt 5000 what"));
        due("eight still", 8, x.status(0));
        due("room for one", 2, Lives.read(x, "unit 7; debt 6 kind 1"));
        due("a fault ahead of it comes first", -25, Lives.read(x, "unit 0; debt 6 kind 1"));
        due("no room at all", -28, Lives.read(x, "unit 8; debt 6 kind 1"));
        due("nothing of it", 7, x.status(9));
        Lives.refusals(checks, x, 3, 0, 0, 0, 0);
    }

    private void grows() {
        checks.begin("promise 17");
        NineDebts x = Lives.of("income 0;debt 50 kind 0 rate 7;debt 59 kind 1 rate 9;debt 40 kind 2 rate 2;"
                + "debt 40 kind 2;debt 30 kind 3 rate 2;debt 20 kind 4 rate 6;debt 20 kind 5 rate 6");
        int[][] due = {{7, 5, 0, 0, 0, 6, 0}, {7, 5, 40, 0, 0, 6, 0}, {7, 6, 0, 0, 5, 6, 0}, {7, 6, 80, 0, 5, 6, 0}};
        x.rule(0, 2, 0);
        for (int w = 0; w < due.length; w++) {
            for (int d = 0; d < 7; d++) {
                due("grows(" + d + ") in week " + w, due[w][d], x.grows(d));
            }
            x.weeks(0, 1);
        }
        NineDebts z = Lives.of("debt 9 kind 4 rate 6 least 1;debt 1 kind 0 rate 3;debt 200 kind 1 rate 50;debt 8 kind 2 rate 3");
        due("a fine, if nothing is paid", 6, z.grows(0));
        due("one of 1", 3, z.grows(1));
        due("a half", 100, z.grows(2));
        z.rule(0, 6, 99);
        due("not ahead of week 1", 0, z.grows(3));
        z.weeks(0, 1);
        due("not ahead of week 2", 0, z.grows(3));
        z.weeks(0, 1);
        due("ahead of week 3", 8, z.grows(3));
        NineDebts y = Lives.of("debt 5 kind 0 rate 7;debt 999 kind 2 rate 1");
        Lives.row(y, 0, 5);
        y.pay(0);
        due("one that isn't open", 0, y.grows(0));
        y.income(1, 0);
        y.rule(1, 6, 99);
        y.weeks(1, 2);
        due("9,999 aside", 7992, y.grows(1));
        y.weeks(1, 1);
        due("9,999 aside", 9999, y.grows(1));
        due("9,999 at most", 9999, y.debtOf(1, 1));
        NineDebts w = new NineDebts();
        w.debt(0, 5, 7, 1, 0, 1);
        w.debt(4, 5, 8, 1, 0, 1);
        due("the first", 7, w.grows(0));
        due("the second", 8, w.grows(1));
        due("no such debt", -2, y.grows(2));
        due("no such debt", -2, y.grows(-1));
        Lives.refusals(checks, y, 2, 0, 0, 0, 0);
    }

    private void bites() {
        checks.begin("promise 18");
        NineDebts x = Lives.of("income 0;chance 0;debt 50 kind 0 patience 2;debt 50 kind 5 patience 2;"
                + "debt 50 kind 3 rate 2 patience 2;debt 50 kind 3 patience 2;debt 50 kind 1 patience 9");
        int[][] due = {{2, 4, 4, 2, 9}, {1, 3, 3, 1, 8}, {1, 2, 2, 1, 7}, {1, 1, 1, 1, 6}, {1, 1, 1, 1, 5}};
        x.rule(0, 2, 0);
        for (int w = 0; w < due.length; w++) {
            for (int d = 0; d < 5; d++) {
                due("bites(" + d + ") in week " + w, due[w][d], x.bites(d));
            }
            x.weeks(0, 1);
        }
        x.alter(2, 0, 9);
        due("asleep again till week 9", 6, x.bites(2));
        x.write(0);
        due("one that was written to", 2, x.bites(0));
        due("one that wasn't", 1, x.bites(3));
        NineDebts z = new NineDebts();
        z.debt(3, 9, 6, 1, 0, 1);
        z.debt(3, 5, 4, 9, 0, 1);
        z.debt(0, 9, 6, 4, 0, 1);
        z.debt(3, 9, 5, 7, 0, 1);
        int[] sleepers = {7, 13, 4, 12};
        for (int d = 0; d < 4; d++) {
            due("bites(" + d + ") of sleepers", sleepers[d], z.bites(d));
        }
        Lives.row(z, 0, 0, 5);
        z.pay(0);
        int[] open = {6, -1, 3, 11};
        for (int d = 0; d < 4; d++) {
            due("bites(" + d + ") if the second isn't open", open[d], z.bites(d));
        }
        NineDebts y = Lives.of("debt 5 kind 0");
        y.rule(0, 2, 0);
        y.weeks(0, 1);
        due("one that isn't open", -1, y.bites(0));
        due("no such debt", -2, y.bites(1));
        due("no such debt", -2, y.bites(-1));
        Lives.refusals(checks, y, 2, 0, 0, 0, 0);
    }
}
