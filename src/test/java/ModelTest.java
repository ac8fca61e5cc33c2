import java.util.Random;

/** Long runs of drawn calls, each answer held against the Model's. */
final class ModelTest {
    private static final int OBJECTS = 1500;
    private static final int CALLS = 512;
    private static final int STATES = 17;

    private final Checks checks;
    private final Random random;
    private NineDebts program;
    private Model model;
    private String call;
    private int debtsAtMost;
    private boolean isPoor;

    private ModelTest(Checks checks, long seed) {
        this.checks = checks;
        this.random = new Random(seed);
    }

    static void runAll(Checks checks) {
        checks.begin("drawn calls");
        for (int k = 0; k < OBJECTS && checks.failed() < 20; k++) {
            new ModelTest(checks, k).runOne(k);
        }
    }

    private void runOne(int number) {
        program = new NineDebts();
        model = new Model();
        debtsAtMost = 1 + below(9);
        isPoor = below(3) > 0;
        int used = begin(number);
        while (used < CALLS - 80) {
            if (below(60) == 0) {
                used += tellLife();
            } else {
                same(number, draw());
                used++;
            }
        }
        for (int what = 0; what < STATES; what++) {
            checks.same("object " + number + ": at its end status(" + what + ")",
                    model.status(what), program.status(what));
        }
        for (int d = 0; d < model.status(0); d++) {
            for (int what = 0; what < 9; what++) {
                checks.same("object " + number + ": at its end debtOf(" + d + ", " + what + ")",
                        model.debtOf(d, what), program.debtOf(d, what));
            }
        }
    }

    /** Shelves, some debts and their picture, so that there is something to go on with. */
    private int begin(int number) {
        int used = 0;
        for (int k = 0; k < 8; k++) {
            same(number, below(3) == 0 ? 0 : 5);
            used++;
        }
        for (int k = 0; k < debtsAtMost; k++) {
            same(number, 7);
            used++;
        }
        for (int k = 0; k < 12 && isPoor; k++) {
            int v = below(20);
            checks.same("income(" + k + ", " + v + ")", model.income(k, v), program.income(k, v));
            used++;
        }
        same(number, 34);
        return used + 1;
    }

    /** The sort of the next call: what spends, or has all in one, comes seldom, else little would be open. */
    private int draw() {
        int which = below(37);
        if (which == 7 && model.status(0) >= debtsAtMost && below(8) > 0) {
            which = 21;
        }
        if ((which == 18 || which == 29 || which == 34) && below(3) > 0) {
            which = 6;
        }
        if (which == 35 && model.status(1) > 0 && below(2) == 0) {
            which = 23;
        }
        return which;
    }

    private int below(int n) {
        return random.nextInt(n);
    }

    /** Mostly one of low .. high, now and then one beside them, or far away. */
    private int near(int low, int high) {
        int how = below(40);
        if (how == 0) {
            return low - 1;
        }
        if (how == 1) {
            return high + 1;
        }
        if (how == 2 && below(4) == 0) {
            int[] far = {Integer.MIN_VALUE, Integer.MAX_VALUE, -1000, 1000, 255, 256};
            return far[below(far.length)];
        }
        return low + below(high - low + 1);
    }

    /** Mostly a shelf that holds a rule, or mostly one that holds a row. */
    private int shelf(boolean rule) {
        int s = near(0, 7);
        for (int k = 0; k < 7 && below(8) > 0; k++) {
            if (model.holds(s) == Model.NONE || model.holds(s) >= 10 != rule) {
                s = near(0, 7);
            }
        }
        return s;
    }

    private int anyShelf() {
        return near(0, 7);
    }

    private int debt() {
        return near(0, Math.max(0, model.status(0) - 1));
    }

    private int runLength() {
        return below(3) == 0 ? near(1, 60) : near(1, 12);
    }

    private long cell() {
        switch (below(6)) {
            case 0: return below(3) == 0 ? random.nextLong() : 0;
            case 1: return below(3) == 0 ? -1 - below(300) : 1;
            case 2: return 0;
            default: return below(isPoor ? 9 : 40);
        }
    }

    private int[] args(int... a) {
        return a;
    }

    private void same(int number, int which) {
        long want;
        long got;
        int[] a;
        switch (which) {
            case 0: a = args(anyShelf(), near(0, 4), below(2) == 0 ? near(0, 9) : near(0, 40));
                want = model.row(a[0], a[1], a[2]); got = program.row(a[0], a[1], a[2]); break;
            case 1: a = args(shelf(false), near(0, 9)); long v = cell();
                want = model.set(a[0], a[1], v); got = program.set(a[0], a[1], v); break;
            case 2: a = args(shelf(false), shelf(false), near(0, 5), near(0, 5), near(0, 6));
                want = model.copy(a[0], a[1], a[2], a[3], a[4]); got = program.copy(a[0], a[1], a[2], a[3], a[4]); break;
            case 3: a = args(shelf(false), near(0, 40));
                want = model.element(a[0], a[1]); got = program.element(a[0], a[1]); break;
            case 4: a = args(anyShelf());
                want = model.holds(a[0]); got = program.holds(a[0]); break;
            case 5: a = args(anyShelf(), near(1, 6), near(0, 99));
                want = model.rule(a[0], a[1], a[2]); got = program.rule(a[0], a[1], a[2]); break;
            case 6: a = args(shelf(true), near(0, 6));
                want = model.says(a[0], a[1]); got = program.says(a[0], a[1]); break;
            case 7: a = args(near(0, 5), below(3) == 0 ? near(1, 999) : near(1, 90), below(2) == 0 ? near(0, 6) : near(0, 50),
                    near(1, 9), near(0, 99), below(2) == 0 ? near(1, 9) : near(1, 99));
                want = model.debt(a[0], a[1], a[2], a[3], a[4], a[5]);
                got = program.debt(a[0], a[1], a[2], a[3], a[4], a[5]); break;
            case 8: a = args(debt(), near(0, 8));
                want = model.debtOf(a[0], a[1]); got = program.debtOf(a[0], a[1]); break;
            case 9: a = args(debt(), near(0, 3), near(0, below(2) == 0 ? 9 : 99));
                want = model.alter(a[0], a[1], a[2]); got = program.alter(a[0], a[1], a[2]); break;
            case 10: a = args(near(0, 11), isPoor ? near(0, 20) : near(0, 99));
                want = model.income(a[0], a[1]); got = program.income(a[0], a[1]); break;
            case 11: a = args(near(0, 2), below(9) == 0 ? near(0, 9999) : near(0, 50));
                want = model.ask(a[0], a[1]); got = program.ask(a[0], a[1]); break;
            case 12: a = args(random.nextInt(), near(1, 4));
                want = model.feed(a[0], a[1]); got = program.feed(a[0], a[1]); break;
            case 13: a = args();
                want = model.wipe(); got = program.wipe(); break;
            case 14: a = args();
                want = model.life(); got = program.life(); break;
            case 15: a = args(debt());
                want = model.grows(a[0]); got = program.grows(a[0]); break;
            case 16: a = args(debt());
                want = model.bites(a[0]); got = program.bites(a[0]); break;
            case 17: a = args(shelf(true), debt());
                want = model.pays(a[0], a[1]); got = program.pays(a[0], a[1]); break;
            case 18: a = args(shelf(true), below(3) > 0 ? near(1, 3) : near(1, 20));
                want = model.weeks(a[0], a[1]); got = program.weeks(a[0], a[1]); break;
            case 19: a = args(shelf(false));
                want = model.pay(a[0]); got = program.pay(a[0]); break;
            case 20: a = args(shelf(false));
                want = model.judge(a[0]); got = program.judge(a[0]); break;
            case 21: a = args(shelf(true), runLength(), near(0, 5));
                want = model.run(a[0], a[1], a[2]); got = program.run(a[0], a[1], a[2]); break;
            case 22: a = args(runLength());
                want = model.head(a[0]); got = program.head(a[0]); break;
            case 23: a = args(below(6) == 0 ? near(1, 3) : near(1, 2), below(2) == 0 ? -1 : debt());
                want = model.best(a[0], a[1]); got = program.best(a[0], a[1]); break;
            case 24: a = args(shelf(true), below(6) == 0 ? near(1, 3) : near(1, 2));
                want = model.lose(a[0], a[1]); got = program.lose(a[0], a[1]); break;
            case 25: a = args(debt());
                want = model.write(a[0]); got = program.write(a[0]); break;
            case 26: a = args(shelf(true), runLength());
                want = model.quiet(a[0], a[1]); got = program.quiet(a[0], a[1]); break;
            case 27: a = args(shelf(true), runLength(), debt(), below(3) > 0 ? near(0, Math.min(9999, model.status(3))) : near(0, 9999));
                want = model.offer(a[0], a[1], a[2], a[3]); got = program.offer(a[0], a[1], a[2], a[3]); break;
            case 28: a = args(shelf(true), runLength(), near(0, 50));
                want = model.one(a[0], a[1], a[2]); got = program.one(a[0], a[1], a[2]); break;
            case 29: a = args(below(3) == 0 ? near(0, 50) : -1);
                want = model.all(a[0]); got = program.all(a[0]); break;
            case 30: a = args(shelf(true), runLength(), debt());
                want = model.holder(a[0], a[1], a[2]); got = program.holder(a[0], a[1], a[2]); break;
            case 31: a = args(shelf(true), runLength());
                want = model.hangs(a[0], a[1]); got = program.hangs(a[0], a[1]); break;
            case 32: a = args(shelf(true), below(4) > 0 ? near(1, 8) : near(1, 60));
                want = model.enough(a[0], a[1]); got = program.enough(a[0], a[1]); break;
            case 33: a = args(random.nextInt());
                want = model.seed(a[0]); got = program.seed(a[0]); break;
            case 34: a = args();
                want = model.image(); got = program.image(); break;
            case 35: a = args();
                want = model.back(); got = program.back(); break;
            default: a = args(near(0, 17));
                want = model.status(a[0]); got = program.status(a[0]); break;
        }
        call = "call of sort " + which + " " + java.util.Arrays.toString(a);
        checks.same("object " + number + ": " + call, want, got);
    }

    /** Feeds a drawn text and has it read: how many calls it took. */
    private int tellLife() {
        String text = text();
        int used = 0;
        if (below(4) > 0) {
            checks.same("wipe()", model.wipe(), program.wipe());
            used++;
        }
        for (int at = 0; at < text.length(); used++) {
            int n = Math.min(1 + below(4), text.length() - at);
            int v = random.nextInt();
            for (int k = 0; k < n; k++) {
                v = v << 8 | text.charAt(at + k) & 255;
            }
            checks.same("feed(" + v + ", " + n + ")", model.feed(v, n), program.feed(v, n));
            at += n;
        }
        checks.same("life() of \"" + text + "\"", model.life(), program.life());
        return used + 1;
    }

    private String text() {
        StringBuilder text = new StringBuilder(gap());
        int n = 1 + below(5);
        for (int k = 0; k < n; k++) {
            text.append(k == 0 ? "" : ";" + gap()).append(statement());
        }
        if (below(4) == 0) {
            spoil(text);
        }
        return text.length() > 120 ? text.substring(0, 120) : text.toString();
    }

    private String statement() {
        String s;
        switch (below(8)) {
            case 0: s = "purse " + (below(3) == 0 ? near(0, 999) : near(0, 60)); break;
            case 1: s = "income " + (isPoor ? near(0, 20) : near(0, 99)); break;
            case 2: s = "income " + near(0, 99) + " of " + near(0, 11); break;
            case 3: s = "unit " + near(1, 50); break;
            case 4: s = "chance " + near(0, 10); break;
            default:
                s = "debt " + near(1, 999) + " kind " + near(0, 5)
                        + (below(2) == 0 ? " rate " + near(0, 50) : "")
                        + (below(2) == 0 ? " patience " + near(1, 9) : "")
                        + (below(2) == 0 ? " bite " + near(0, 99) : "")
                        + (below(2) == 0 ? " least " + near(1, 99) : "");
        }
        if (s.startsWith("debt") && model.status(0) >= debtsAtMost && below(4) > 0) {
            s = "unit 10";
        }
        return below(3) == 0 ? s.replace(" ", gap()) : s;
    }

    private String gap() {
        return " ".repeat(below(3) == 0 ? 2 : below(2));
    }

    private void spoil(StringBuilder text) {
        int at = text.length() == 0 ? 0 : below(text.length());
        String signs = ";; 0 9 a z - D \u00ff 00 of rate kind ";
        char sign = signs.charAt(below(signs.length()));
        switch (below(4)) {
            case 0: text.insert(at, sign); break;
            case 1: text.append(sign); break;
            case 2: text.setLength(at); break;
            default:
                if (at < text.length()) {
                    text.setCharAt(at, sign);
                }
        }
    }
}
