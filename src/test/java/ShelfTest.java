/** Promises 1 to 8: a new object, rows and rules. */
final class ShelfTest {
    private final Checks checks;

    private ShelfTest(Checks checks) {
        this.checks = checks;
    }

    static void runAll(Checks checks) {
        ShelfTest t = new ShelfTest(checks);
        t.newObject();
        t.row();
        t.set();
        t.copy();
        t.copyRefused();
        t.copyAnywhere();
        t.element();
        t.holds();
        t.rule();
        t.says();
        t.saysFar();
        t.saysRefused();
    }

    private void due(String what, long want, long got) {
        checks.same(what, want, got);
    }

    private void newObject() {
        checks.begin("promise 1");
        NineDebts x = new NineDebts();
        due("NONE", -1, NineDebts.NONE);
        Lives.status(checks, x, 0, 0, 0, 0, 0, 0, 0, 1, 0, 10, 10);
        Lives.refusals(checks, x, 0, 0, 0, 0, 0);
        for (int s = 0; s < 8; s++) {
            due("holds(" + s + ")", -1, x.holds(s));
        }
        due("the tape's size", 0, x.wipe());
        due("debtOf(0, 0)", -2, x.debtOf(0, 0));
        for (int w = 0; w < 12; w++) {
            due("income " + w, 40, x.income(w, 40));
        }
        due("nothing kept", -5, x.back());
    }

    private void row() {
        checks.begin("promise 2");
        NineDebts x = new NineDebts();
        due("row(0, 0, 0)", 1, x.row(0, 0, 0));
        due("row(7, 4, 40)", 1, x.row(7, 4, 40));
        due("holds(0)", 0, x.holds(0));
        due("holds(7)", 4, x.holds(7));
        due("the last element", 1, x.set(7, 39, 1));
        due("one too far", -2, x.set(7, 40, 1));
        due("none in an empty row", -2, x.set(0, 0, 1));
        x.row(1, 3, 5);
        x.set(1, 2, 9);
        due("a bad sort", -2, x.row(1, 5, 5));
        due("a bad sort", -2, x.row(1, -1, 5));
        due("a bad size", -2, x.row(1, 3, -1));
        due("a bad size", -2, x.row(1, 3, 41));
        due("a bad shelf", -2, x.row(-1, 3, 5));
        due("a bad shelf", -2, x.row(8, 3, 5));
        due("nothing changed", 9, x.element(1, 2));
        x.row(1, 3, 5);
        due("a new row's elements", 0, x.element(1, 2));
        x.rule(1, 2, 0);
        x.row(1, 1, 3);
        due("a row where a rule was", 1, x.holds(1));
        for (int s = 0; s < 8; s++) {
            x.row(s, 2, 3);
            x.set(s, 1, 50 + s);
            due("its own element", 50 + s, x.element(s, 1));
            x.row(s, 2, 2);
            due("a new row's elements, in shelf " + s, 0, x.element(s, 1));
        }
        Lives.refusals(checks, x, 8, 0, 0, 0, 0);
    }

    private void put(int sort, long v, long kept) {
        NineDebts x = new NineDebts();
        x.row(3, sort, 2);
        due("set(3, 1, " + v + ")", 1, x.set(3, 1, v));
        due("sort " + sort + " of " + v, kept, x.element(3, 1));
        due("the element beside it", 0, x.element(3, 0));
    }

    private void set() {
        checks.begin("promise 3");
        put(0, 127, 127);
        put(0, 128, -128);
        put(0, 300, 44);
        put(0, -129, 127);
        put(1, 32768, -32768);
        put(1, 65537, 1);
        put(2, 1L << 31, Integer.MIN_VALUE);
        put(2, (1L << 32) + 5, 5);
        put(3, Long.MIN_VALUE, Long.MIN_VALUE);
        put(4, 2, 1);
        put(4, -1, 1);
        put(4, 1L << 40, 1);
        put(4, 0, 0);
        NineDebts x = new NineDebts();
        x.row(0, 2, 3);
        x.rule(1, 1, 0);
        due("a bad shelf", -2, x.set(8, 0, 1));
        due("a bad shelf", -2, x.set(-1, 0, 1));
        due("a rule ahead of a bad place", -3, x.set(1, 99, 1));
        due("nothing ahead of a bad place", -4, x.set(2, -1, 1));
        due("a bad place", -2, x.set(0, 3, 1));
        due("a bad place", -2, x.set(0, -1, 1));
        Lives.refusals(checks, x, 4, 1, 1, 0, 0);
    }

    private void cells(NineDebts x, int s, long... due) {
        for (int i = 0; i < due.length; i++) {
            due("element(" + s + ", " + i + ")", due[i], x.element(s, i));
        }
    }

    private void copy() {
        checks.begin("promise 4");
        NineDebts x = new NineDebts();
        Lives.row(x, 0, 1, 2, 3, 4, 5);
        Lives.row(x, 1, 0, 0, 0);
        due("copy(0, 1, 2, 1, 2)", 2, x.copy(0, 1, 2, 1, 2));
        cells(x, 1, 0, 3, 4);
        cells(x, 0, 1, 2, 3, 4, 5);
        due("upwards in one row", 4, x.copy(0, 0, 0, 1, 4));
        cells(x, 0, 1, 1, 2, 3, 4);
        due("downwards in one row", 3, x.copy(0, 0, 2, 1, 3));
        cells(x, 0, 1, 2, 3, 4, 4);
        due("all of it", 3, x.copy(1, 0, 0, 2, 3));
        cells(x, 0, 1, 2, 0, 3, 4);
        due("none, at the ends", 0, x.copy(0, 1, 5, 3, 0));
    }

    private void copyRefused() {
        NineDebts x = new NineDebts();
        Lives.row(x, 0, 1, 2, 3, 4, 5);
        Lives.row(x, 1, 0, 0, 0);
        x.row(2, 1, 5);
        x.rule(3, 1, 0);
        due("bad shelves", -2, x.copy(8, 0, 0, 0, 1));
        due("bad shelves", -2, x.copy(0, -1, 0, 0, 1));
        due("a bad shelf beside a rule", -2, x.copy(3, 8, 0, 0, 1));
        due("from a rule", -3, x.copy(3, 0, 0, 0, 1));
        due("into a rule", -3, x.copy(0, 3, 0, 0, 1));
        due("a rule and nothing", -3, x.copy(3, 4, 0, 0, 1));
        due("nothing and a rule", -3, x.copy(4, 3, 0, 0, 1));
        due("two sorts, also at bad places", -3, x.copy(0, 2, 9, 0, 1));
        due("from nothing, also to bad places", -4, x.copy(4, 0, 0, -1, 1));
        due("into nothing", -4, x.copy(0, 4, 0, 0, 1));
        due("bad i", -2, x.copy(0, 1, -1, 0, 1));
        due("bad j", -2, x.copy(0, 1, 0, -1, 1));
        due("bad n", -2, x.copy(0, 1, 0, 0, -1));
        due("past the first's end", -2, x.copy(0, 1, 4, 0, 2));
        due("past the second's end", -2, x.copy(0, 1, 0, 2, 2));
        due("none, past the end", -2, x.copy(0, 1, 6, 0, 0));
        due("far", -2, x.copy(0, 1, Integer.MAX_VALUE, 0, 1));
        due("far", -2, x.copy(0, 1, 1, 1, Integer.MAX_VALUE));
        cells(x, 1, 0, 0, 0);
        Lives.refusals(checks, x, 11, 5, 2, 0, 0);
    }

    /** From shelf 6 and into 5, where shelf 0 holds less, and of another sort. */
    private void copyAnywhere() {
        NineDebts x = new NineDebts();
        x.row(0, 0, 1);
        Lives.row(x, 6, 1, 2, 3, 4);
        Lives.row(x, 5, 9, 9);
        due("past the first's end", -2, x.copy(6, 5, 3, 0, 2));
        due("past the second's end", -2, x.copy(6, 5, 0, 1, 2));
        due("the other way, past the first's end", -2, x.copy(5, 6, 1, 0, 2));
        due("the other way, past the second's end", -2, x.copy(5, 6, 0, 3, 2));
        due("two sorts", -3, x.copy(6, 0, 0, 0, 1));
        due("two sorts", -3, x.copy(0, 6, 0, 0, 1));
        cells(x, 5, 9, 9);
        cells(x, 6, 1, 2, 3, 4);
        due("to the end", 2, x.copy(6, 5, 2, 0, 2));
        cells(x, 5, 3, 4);
        due("from the end", 1, x.copy(5, 6, 1, 0, 1));
        cells(x, 6, 4, 2, 3, 4);
        Lives.refusals(checks, x, 4, 2, 0, 0, 0);
    }

    private void element() {
        checks.begin("promise 5");
        NineDebts x = new NineDebts();
        x.row(0, 3, 2);
        x.set(0, 1, Long.MAX_VALUE);
        x.rule(1, 1, 9);
        due("the element", Long.MAX_VALUE, x.element(0, 1));
        due("no such place", 0, x.element(0, 2));
        due("no such place", 0, x.element(0, -1));
        due("a rule", 0, x.element(1, 0));
        due("nothing", 0, x.element(2, 0));
        due("no shelf", 0, x.element(8, 0));
        due("no shelf", 0, x.element(-1, 0));
        x.row(3, 2, 5);
        x.set(3, 2, 8);
        x.rule(3, 2, 9);
        due("a rule where a row was", 0, x.element(3, 2));
        Lives.refusals(checks, x, 0, 0, 0, 0, 0);
    }

    private void holds() {
        checks.begin("promise 6");
        NineDebts x = new NineDebts();
        for (int sort = 0; sort <= 4; sort++) {
            x.row(sort, sort, 1);
            due("a row's sort", sort, x.holds(sort));
        }
        for (int kind = 1; kind <= 6; kind++) {
            x.rule(kind, kind, 0);
            due("a rule's kind", 10 + kind, x.holds(kind));
        }
        due("nothing", -1, x.holds(7));
        due("no shelf", -1, x.holds(8));
        due("no shelf", -1, x.holds(-1));
        Lives.refusals(checks, x, 0, 0, 0, 0, 0);
    }

    private void rule() {
        checks.begin("promise 7");
        NineDebts x = new NineDebts();
        due("rule(0, 1, 0)", 1, x.rule(0, 1, 0));
        due("rule(7, 6, 99)", 1, x.rule(7, 6, 99));
        due("its a", 99, x.says(7, 0));
        due("a bad shelf", -2, x.rule(8, 1, 0));
        due("a bad shelf", -2, x.rule(-1, 1, 0));
        due("a bad kind", -2, x.rule(7, 0, 0));
        due("a bad kind", -2, x.rule(7, 7, 0));
        due("a bad a", -2, x.rule(7, 1, -1));
        due("a bad a", -2, x.rule(7, 1, 100));
        due("nothing changed", 16, x.holds(7));
        x.row(7, 0, 1);
        due("a rule where a row was", 1, x.rule(7, 2, 0));
        due("the new one", 12, x.holds(7));
        Lives.refusals(checks, x, 6, 0, 0, 0, 0);
    }

    private void says() {
        checks.begin("promise 8");
        NineDebts x = Lives.withRules("debt 30 kind 0 rate 10; debt 100 kind 1 rate 10 patience 2 least 7;"
                + "debt 20 kind 5 patience 1 least 50; debt 20 kind 4 rate 3 patience 2", 17);
        for (int s = 1; s <= 6; s++) {
            due("the a of rule " + s, 17, x.says(s, 0));
        }
        due("DEAR: of 10 and 10 the first", 0, x.says(1, 1));
        due("SMALL: of 20 and 20 the first", 2, x.says(2, 2));
        due("LOUD: of three that bite in 2 the dearest", 1, x.says(3, 3));
        due("LOUD taken for DEAR keeps its order", 1, x.says(3, 1));
        due("EVEN: 40 by 4", 10, x.says(4, 4));
        due("LEASTS: 5, 7, 50, 5", 67, x.says(5, 5));
        due("KEEP", 2, x.says(6, 6));
        due("KEEP taken for SMALL", 2, x.says(6, 2));
        x.income(0, 43);
        due("EVEN: 43 by 4, cut", 10, x.says(4, 4));
        Lives.row(x, 0, 0, 0, 20, 20);
        x.pay(0);
        due("LEASTS of open ones", 12, x.says(5, 5));
        due("EVEN: 43 less 40, and 40, by 2", 21, x.says(4, 4));
        due("SMALL of open ones", 0, x.says(2, 2));
        NineDebts z = Lives.withRules("debt 1 kind 0 rate 5;debt 1 kind 4 rate 6 least 1", 0);
        due("LEASTS of sums of 1", 6, z.says(5, 5));
        due("DEAR: the fine", 1, z.says(1, 1));
        due("LOUD: alike, the fine", 1, z.says(3, 3));
        NineDebts y = Lives.withRules("purse 5", 3);
        due("none open: DEAR", -1, y.says(1, 1));
        due("none open: SMALL", -1, y.says(2, 2));
        due("none open: LOUD", -1, y.says(3, 3));
        due("none open: EVEN", 0, y.says(4, 4));
        due("none open: LEASTS", 0, y.says(5, 5));
        due("none open: KEEP", -1, y.says(6, 6));
        due("none open: a", 3, y.says(6, 0));
    }

    /** Orders where the first debt is paid off and the others' numbers are as great as can be. */
    private void saysFar() {
        NineDebts x = Lives.withRules("chance 0;income 9;debt 9 kind 5;debt 999 kind 2 rate 1;debt 999 kind 2 rate 1", 0);
        x.weeks(2, 4);
        due("a sum of 9,999, less what was paid and doubled", 9999, x.debtOf(2, 1));
        due("SMALL: the first that is open", 1, x.says(2, 2));
        due("DEAR: the first that is open", 1, x.says(1, 1));
        NineDebts y = Lives.withRules("income 9;debt 9 kind 5;debt 20 kind 5 patience 9;debt 30 kind 5 patience 9", 0);
        due("LOUD: twice 3 ahead of twice 9", 0, y.says(3, 3));
        y.weeks(3, 1);
        due("LOUD: the first that is open", 1, y.says(3, 3));
        y.ask(0, 25);
        due("LOUD: first the one", 20, y.pays(3, 1));
        due("LOUD: then the other", 14, y.pays(3, 2));
    }

    private void saysRefused() {
        NineDebts x = Lives.withRules("debt 5 kind 0", 0);
        x.row(0, 0, 1);
        due("a bad shelf", -2, x.says(-1, 0));
        due("a bad shelf", -2, x.says(8, 0));
        due("a bad kind, also of a row", -2, x.says(0, 7));
        due("a bad kind, also of nothing", -2, x.says(7, -1));
        due("a row", -3, x.says(0, 0));
        due("nothing", -4, x.says(7, 0));
        int others = 0;
        for (int s = 1; s <= 6; s++) {
            for (int kind = 1; kind <= 6; kind++) {
                boolean under = s == kind || s == 3 && kind == 1 || s == 6 && kind == 2;
                due("rule " + s + " taken for " + kind, under ? 1 : 0, x.says(s, kind) == -3 ? 0 : 1);
                others += under ? 0 : 1;
            }
        }
        Lives.refusals(checks, x, 4, 1 + others, 1, 0, 0);
    }
}
