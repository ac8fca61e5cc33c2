import java.util.ArrayList;
import java.util.Arrays;
import java.util.Comparator;
import java.util.List;

/**
 * The document again, written another way and without any care for speed: ModelTest holds the
 * program's answers against these.
 */
final class Model {
    static final int NONE = -1;
    private static final int BAD = -2;
    private static final int OTHER = -3;
    private static final int NOTHING = -4;
    private static final int STUCK = -5;
    private static final int FULL = -6;

    // ---- debts, each kind with a class of its own ----

    private static class Debt {
        int kind;
        int sum;
        int rate;
        int patience;
        int bite;
        int least;
        int missed = 0;
        boolean written = false;
        int got = 0;

        boolean open() {
            return sum > 0;
        }

        int growth(int week, int paid) {
            return rate;
        }

        boolean sleepsIn(int week) {
            return false;
        }

        int endurance() {
            return patience;
        }

        Debt copy() {
            Debt d = make(kind, sum, rate, patience, bite, least);
            d.missed = missed;
            d.written = written;
            d.got = got;
            return d;
        }
    }

    private static class Parts extends Debt {
        @Override
        int growth(int week, int paid) {
            return sum * rate / 100;
        }
    }

    private static class Doubles extends Parts {
        @Override
        int growth(int week, int paid) {
            return rate != 0 && (week + 1) % rate == 0 ? sum : 0;
        }
    }

    private static class Sleeps extends Debt {
        @Override
        int growth(int week, int paid) {
            return sleepsIn(week) ? 0 : 5;
        }

        @Override
        boolean sleepsIn(int week) {
            return week < rate;
        }
    }

    private static class Fine extends Debt {
        @Override
        int growth(int week, int paid) {
            return paid < least ? rate : 0;
        }
    }

    private static class Friend extends Debt {
        @Override
        int growth(int week, int paid) {
            return 0;
        }

        @Override
        int endurance() {
            return patience + patience;
        }
    }

    private static Debt make(int kind, int sum, int rate, int patience, int bite, int least) {
        Debt d;
        switch (kind) {
            case 0: d = new Debt(); break;
            case 1: d = new Parts(); break;
            case 2: d = new Doubles(); break;
            case 3: d = new Sleeps(); break;
            case 4: d = new Fine(); break;
            default: d = new Friend(); break;
        }
        d.kind = kind;
        d.sum = sum;
        d.rate = rate;
        d.patience = patience;
        d.bite = bite;
        d.least = least;
        return d;
    }

    // ---- the world: all that image() keeps ----

    private static final class World {
        List<Debt> debts = new ArrayList<>();
        int week = 0;
        int purse = 0;
        int[] incomes = new int[12];
        int unit = 10;
        int chance = 10;
        int harm = 0;
        int seed = 1;
        int spent = 0;

        World() {
            Arrays.fill(incomes, 40);
        }

        World copy() {
            World w = new World();
            for (Debt d : debts) {
                w.debts.add(d.copy());
            }
            w.week = week;
            w.purse = purse;
            w.incomes = incomes.clone();
            w.unit = unit;
            w.chance = chance;
            w.harm = harm;
            w.seed = seed;
            w.spent = spent;
            return w;
        }

        int coin() {
            return purse + incomes[week % 12];
        }

        int growthIfUnpaid(int i) {
            Debt d = debts.get(i);
            return d.open() ? d.growth(week, 0) : 0;
        }

        long draw(long below) {
            seed = (int) ((long) seed * 1103515245L + 12345L);
            return ((seed & 0xffff0000L) >> 16) % below;
        }

        List<Integer> open() {
            List<Integer> l = new ArrayList<>();
            for (int i = 0; i < debts.size(); i++) {
                if (debts.get(i).open()) {
                    l.add(i);
                }
            }
            return l;
        }

        int sums() {
            return debts.stream().mapToInt(d -> d.sum).sum();
        }

        int pass(int[] payments, boolean truth) {
            int coin = coin();
            int all = 0;
            int[] sumsAhead = new int[debts.size()];
            for (int i = 0; i < debts.size(); i++) {
                sumsAhead[i] = debts.get(i).sum;
                all += payments[i];
                debts.get(i).sum -= payments[i];
                debts.get(i).got += payments[i];
            }
            purse = Math.min(9999, coin - all);
            for (int i : open()) {
                Debt d = debts.get(i);
                if (payments[i] < d.least && payments[i] < sumsAhead[i]) {
                    d.missed += 1;
                } else {
                    d.missed = 0;
                }
                if (d.sleepsIn(week)) {
                    d.missed = 0;
                }
                if (d.missed >= d.endurance()) {
                    boolean comes = true;
                    if (truth) {
                        comes = draw(10) < chance;
                    }
                    if (comes) {
                        harm += d.bite;
                        d.missed = 0;
                    }
                }
                d.sum = Math.min(9999, d.sum + d.growth(week, payments[i]));
            }
            week += 1;
            spent += all;
            return all;
        }

        int intoOne(int rate) {
            List<Integer> open = open();
            int all = Math.min(9999, sums());
            for (int i : open) {
                debts.get(i).sum = 0;
            }
            debts.set(open.get(0), make(1, all, rate, 3, 10, 5));
            return open.get(0);
        }
    }

    // ---- rules ----

    private static final class Rule {
        int kind;
        int a;

        boolean isA(int other) {
            if (other == 0 || other == kind) {
                return true;
            }
            return kind == 3 && other == 1 || kind == 6 && other == 2;
        }

        /** The open debts, the first to be paid first. */
        List<Integer> order(World w) {
            List<Integer> open = w.open();
            Comparator<Integer> bySum = Comparator.comparingInt(i -> w.debts.get(i).sum);
            Comparator<Integer> byGrowth = Comparator.comparingInt(i -> -w.growthIfUnpaid(i));
            Comparator<Integer> byLoudness =
                    Comparator.comparingInt(i -> w.debts.get(i).endurance() - w.debts.get(i).missed);
            if (kind == 1) {
                open.sort(byGrowth);
            } else if (kind == 3) {
                open.sort(byLoudness.thenComparing(byGrowth));
            } else {
                open.sort(bySum);
            }
            return open;
        }

        int[] payments(World w) {
            int[] pay = new int[w.debts.size()];
            int left = w.coin();
            if (kind == 4) {
                int n = w.open().size();
                for (int i : w.open()) {
                    pay[i] = Math.min(left / n, w.debts.get(i).sum);
                }
                return pay;
            }
            if (kind == 6) {
                left = left < a ? 0 : left - a;
            }
            if (kind == 5) {
                for (int i : w.open()) {
                    Debt d = w.debts.get(i);
                    int due = d.least < d.sum ? d.least : d.sum;
                    pay[i] = due < left ? due : left;
                    left -= pay[i];
                }
            }
            for (int i : order(w)) {
                int more = Math.min(w.debts.get(i).sum - pay[i], left);
                pay[i] += more;
                left -= more;
            }
            return pay;
        }
    }

    private static final class Row {
        int sort;
        long[] cells;
    }

    private World world = new World();
    private World kept = null;
    private final Object[] shelves = new Object[8];
    private final StringBuilder tape = new StringBuilder();
    private final int[] refused = new int[7];

    private int no(int code) {
        refused[-code]++;
        return code;
    }

    private static boolean in(long v, long low, long high) {
        return low <= v && v <= high;
    }

    private boolean isDebt(int d) {
        return in(d, 0, world.debts.size() - 1);
    }

    /** 0, or why shelf s doesn't hold a thing of a class. */
    private int not(Class<?> wanted, int s) {
        if (!in(s, 0, 7)) {
            return BAD;
        }
        if (shelves[s] == null) {
            return NOTHING;
        }
        return wanted.isInstance(shelves[s]) ? 0 : OTHER;
    }

    private int notRule(int s, boolean good) {
        return good ? not(Rule.class, s) : BAD;
    }

    // ---- the calls ----

    int row(int s, int sort, int n) {
        if (!in(s, 0, 7) || !in(sort, 0, 4) || !in(n, 0, 40)) {
            return no(BAD);
        }
        Row r = new Row();
        r.sort = sort;
        r.cells = new long[n];
        shelves[s] = r;
        return 1;
    }

    int set(int s, int i, long v) {
        int not = not(Row.class, s);
        if (not != 0) {
            return no(not);
        }
        Row r = (Row) shelves[s];
        if (!in(i, 0, r.cells.length - 1)) {
            return no(BAD);
        }
        int[] bits = {8, 16, 32, 64};
        if (r.sort == 4) {
            r.cells[i] = v == 0 ? 0 : 1;
        } else {
            int up = 64 - bits[r.sort];
            r.cells[i] = v << up >> up;
        }
        return 1;
    }

    int copy(int p, int q, int i, int j, int n) {
        if (!in(p, 0, 7) || !in(q, 0, 7)) {
            return no(BAD);
        }
        if (shelves[p] instanceof Rule || shelves[q] instanceof Rule) {
            return no(OTHER);
        }
        Row a = (Row) shelves[p];
        Row b = (Row) shelves[q];
        if (a != null && b != null && a.sort != b.sort) {
            return no(OTHER);
        }
        if (a == null || b == null) {
            return no(NOTHING);
        }
        if (n < 0 || i < 0 || j < 0 || (long) i + n > a.cells.length || (long) j + n > b.cells.length) {
            return no(BAD);
        }
        long[] were = a.cells.clone();
        for (int k = 0; k < n; k++) {
            b.cells[j + k] = were[i + k];
        }
        return n;
    }

    long element(int s, int i) {
        if (not(Row.class, s) != 0) {
            return 0;
        }
        Row r = (Row) shelves[s];
        return in(i, 0, r.cells.length - 1) ? r.cells[i] : 0;
    }

    int holds(int s) {
        if (!in(s, 0, 7) || shelves[s] == null) {
            return NONE;
        }
        return shelves[s] instanceof Rule ? 10 + ((Rule) shelves[s]).kind : ((Row) shelves[s]).sort;
    }

    int rule(int s, int kind, int a) {
        if (!in(s, 0, 7) || !in(kind, 1, 6) || !in(a, 0, 99)) {
            return no(BAD);
        }
        Rule r = new Rule();
        r.kind = kind;
        r.a = a;
        shelves[s] = r;
        return 1;
    }

    int says(int s, int kind) {
        int not = notRule(s, in(kind, 0, 6));
        if (not != 0) {
            return no(not);
        }
        Rule r = (Rule) shelves[s];
        if (!r.isA(kind)) {
            return no(OTHER);
        }
        List<Integer> open = world.open();
        if (kind == 0) {
            return r.a;
        }
        if (kind == 4) {
            return open.isEmpty() ? 0 : world.coin() / open.size();
        }
        if (kind == 5) {
            return open.stream().mapToInt(i -> world.debts.get(i).least).sum();
        }
        return open.isEmpty() ? NONE : r.order(world).get(0);
    }

    int debt(int kind, int sum, int rate, int patience, int bite, int least) {
        if (!in(kind, 0, 5) || !in(sum, 1, 999) || !in(rate, 0, 50) || !in(patience, 1, 9)
                || !in(bite, 0, 99) || !in(least, 1, 99)) {
            return no(BAD);
        }
        if (world.debts.size() == 9) {
            return no(FULL);
        }
        world.debts.add(make(kind, sum, rate, patience, bite, least));
        return world.debts.size() - 1;
    }

    int debtOf(int debt, int what) {
        if (!isDebt(debt)) {
            return no(BAD);
        }
        Debt d = world.debts.get(debt);
        switch (what) {
            case 0: return d.kind;
            case 1: return d.sum;
            case 2: return d.rate;
            case 3: return d.patience;
            case 4: return d.bite;
            case 5: return d.least;
            case 6: return d.missed;
            case 7: return d.written ? 1 : 0;
            case 8: return d.got;
            default: return no(BAD);
        }
    }

    int alter(int debt, int what, int v) {
        if (!isDebt(debt) || !in(what, 0, 3)) {
            return no(BAD);
        }
        Debt d = world.debts.get(debt);
        int was;
        if (what == 0 && in(v, 0, 50)) {
            was = d.rate;
            d.rate = v;
        } else if (what == 1 && in(v, 1, 9)) {
            was = d.patience;
            d.patience = v;
        } else if (what == 2 && in(v, 0, 99)) {
            was = d.bite;
            d.bite = v;
        } else if (what == 3 && in(v, 1, 99)) {
            was = d.least;
            d.least = v;
        } else {
            return no(BAD);
        }
        return was;
    }

    int income(int w, int v) {
        if (!in(w, 0, 11) || !in(v, 0, 99)) {
            return no(BAD);
        }
        int was = world.incomes[w];
        world.incomes[w] = v;
        return was;
    }

    int ask(int what, int v) {
        int was;
        if (what == 0 && in(v, 0, 9999)) {
            was = world.purse;
            world.purse = v;
        } else if (what == 1 && in(v, 1, 50)) {
            was = world.unit;
            world.unit = v;
        } else if (what == 2 && in(v, 0, 10)) {
            was = world.chance;
            world.chance = v;
        } else {
            return no(BAD);
        }
        return was;
    }

    int feed(int v, int n) {
        if (!in(n, 1, 4)) {
            return no(BAD);
        }
        if (tape.length() + n > 250) {
            return no(FULL);
        }
        String four = "";
        int rest = v;
        for (int k = 0; k < n; k++) {
            four = (char) (rest & 255) + four;
            rest >>= 8;
        }
        tape.append(four);
        return tape.length();
    }

    int wipe() {
        int was = tape.length();
        tape.setLength(0);
        return was;
    }

    // ---- reading a life: tokens first, then statements ----

    private static final class Fault extends RuntimeException {
        private static final long serialVersionUID = 1L;
        final int at;

        Fault(int at) {
            this.at = at;
        }
    }

    private static final class Token {
        String text;
        int at;
    }

    private List<Token> tokens;
    private int next;

    private List<Token> tokensOf(String text) {
        List<Token> l = new ArrayList<>();
        java.util.regex.Matcher m = java.util.regex.Pattern.compile("[a-z]+|[0-9]+|[^ ]").matcher(text);
        while (m.find()) {
            Token t = new Token();
            t.text = m.group();
            t.at = m.start();
            l.add(t);
        }
        Token end = new Token();
        end.text = "";
        end.at = text.length();
        l.add(end);
        return l;
    }

    private Token here() {
        return tokens.get(next);
    }

    private boolean skip(String word) {
        if (!here().text.equals(word)) {
            return false;
        }
        next++;
        return true;
    }

    private void need(String word) {
        if (!skip(word)) {
            throw new Fault(here().at);
        }
    }

    private int number(int low, int high) {
        String t = here().text;
        if (!t.matches("[0-9]{1,3}") || !in(Integer.parseInt(t), low, high)) {
            throw new Fault(here().at);
        }
        next++;
        return Integer.parseInt(t);
    }

    private void statement(World w) {
        Token first = here();
        if (skip("debt")) {
            if (w.debts.size() == 9) {
                throw new Fault(first.at);
            }
            int sum = number(1, 999);
            need("kind");
            int kind = number(0, 5);
            int rate = skip("rate") ? number(0, 50) : 0;
            int patience = skip("patience") ? number(1, 9) : 3;
            int bite = skip("bite") ? number(0, 99) : 10;
            int least = skip("least") ? number(1, 99) : 5;
            w.debts.add(make(kind, sum, rate, patience, bite, least));
        } else if (skip("purse")) {
            w.purse = number(0, 999);
        } else if (skip("income")) {
            int v = number(0, 99);
            if (skip("of")) {
                w.incomes[number(0, 11)] = v;
            } else {
                Arrays.fill(w.incomes, v);
            }
        } else if (skip("unit")) {
            w.unit = number(1, 50);
        } else if (skip("chance")) {
            w.chance = number(0, 10);
        } else {
            throw new Fault(first.at);
        }
    }

    int life() {
        World w = world.copy();
        tokens = tokensOf(tape.toString());
        next = 0;
        tape.setLength(0);
        int n = 0;
        try {
            do {
                statement(w);
                n++;
            } while (skip(";"));
            if (next != tokens.size() - 1) {
                throw new Fault(here().at);
            }
        } catch (Fault f) {
            no(BAD);
            return -20 - f.at;
        }
        world = w;
        return n;
    }

    // ---- weeks ----

    int grows(int debt) {
        return isDebt(debt) ? world.growthIfUnpaid(debt) : no(BAD);
    }

    /** By letting weeks go by until it does. */
    int bites(int debt) {
        if (!isDebt(debt)) {
            return no(BAD);
        }
        World w = world.copy();
        if (!w.debts.get(debt).open()) {
            return NONE;
        }
        for (int i = 0; i < w.debts.size(); i++) {
            w.debts.get(i).bite = i == debt ? 1 : 0;
        }
        w.harm = 0;
        int weeks = 0;
        while (w.harm == 0) {
            w.pass(new int[w.debts.size()], false);
            weeks++;
        }
        return weeks;
    }

    int pays(int s, int debt) {
        int not = notRule(s, isDebt(debt));
        return not != 0 ? no(not) : ((Rule) shelves[s]).payments(world)[debt];
    }

    int weeks(int s, int n) {
        int not = notRule(s, in(n, 1, 20));
        if (not != 0) {
            return no(not);
        }
        int paid = 0;
        for (int k = 0; k < n; k++) {
            paid += world.pass(((Rule) shelves[s]).payments(world), true);
        }
        return paid;
    }

    private long[] told(int s) {
        return Arrays.copyOf(((Row) shelves[s]).cells, world.debts.size());
    }

    private int judged(int s) {
        long[] told = told(s);
        long all = 0;
        for (int i = 0; i < told.length; i++) {
            if (!in(told[i], 0, world.debts.get(i).sum)) {
                return i;
            }
            all += told[i];
        }
        return all > world.coin() ? 9 : NONE;
    }

    int pay(int s) {
        int not = not(Row.class, s);
        if (not != 0) {
            return no(not);
        }
        if (judged(s) != NONE) {
            return no(STUCK);
        }
        return world.pass(Arrays.stream(told(s)).mapToInt(v -> (int) v).toArray(), true);
    }

    int judge(int s) {
        int not = not(Row.class, s);
        return not != 0 ? no(not) : judged(s);
    }

    // ---- what comes of it ----

    /** A run: the world behind it, harm and what was spent counted from 0. */
    private static World behind(World from, Rule r, int n) {
        World w = from.copy();
        w.harm = 0;
        w.spent = 0;
        for (int k = 0; k < n; k++) {
            w.pass(r.payments(w), false);
        }
        return w;
    }

    private static int loss(World from, Rule r, int n) {
        World w = behind(from, r, n);
        return w.harm + w.sums();
    }

    int run(int s, int n, int what) {
        int not = notRule(s, in(n, 1, 60) && in(what, 0, 5));
        if (not != 0) {
            return no(not);
        }
        Rule r = (Rule) shelves[s];
        World w = behind(world, r, n);
        switch (what) {
            case 0: return w.harm + w.sums();
            case 1: return w.harm;
            case 2: return w.sums();
            case 3: return w.spent;
            case 5: return w.purse;
            default:
                for (int k = 0; k <= n; k++) {
                    if (behind(world, r, k).open().isEmpty()) {
                        return k;
                    }
                }
                return NONE;
        }
    }

    int head(int n) {
        if (!in(n, 1, 60)) {
            return no(BAD);
        }
        int at = NONE;
        for (int s = 7; s >= 0; s--) {
            if (shelves[s] instanceof Rule && (at == NONE
                    || loss(world, (Rule) shelves[s], n) <= loss(world, (Rule) shelves[at], n))) {
                at = s;
            }
        }
        return at == NONE ? no(STUCK) : at;
    }

    private boolean plannable(int n) {
        int coins = world.purse;
        for (int k = 0; k < n; k++) {
            coins += world.incomes[(world.week + k) % 12];
        }
        return world.open().size() <= 3 && coins / world.unit <= 6;
    }

    /** All payments of a week that a plan may have. */
    private static List<int[]> choices(World w) {
        List<int[]> all = new ArrayList<>();
        all.add(new int[w.debts.size()]);
        for (int i : w.open()) {
            List<int[]> more = new ArrayList<>();
            int sum = w.debts.get(i).sum;
            for (int[] c : all) {
                for (int v = 0; v <= sum; v++) {
                    if (v % w.unit == 0 || v == sum) {
                        int[] d = c.clone();
                        d[i] = v;
                        if (Arrays.stream(d).sum() <= w.coin()) {
                            more.add(d);
                        }
                    }
                }
            }
            all = more;
        }
        return all;
    }

    private static int leastLoss(World w, int n) {
        if (n == 0) {
            return w.harm + w.sums();
        }
        int least = Integer.MAX_VALUE;
        for (int[] c : choices(w)) {
            World v = w.copy();
            v.pass(c, false);
            least = Math.min(least, leastLoss(v, n - 1));
        }
        return least;
    }

    private int[] firstOfBest(int n) {
        World from = world.copy();
        from.harm = 0;
        int least = leastLoss(from, n);
        int[] first = null;
        for (int[] c : choices(from)) {
            World v = from.copy();
            v.pass(c, false);
            if (leastLoss(v, n - 1) == least && (first == null || Arrays.compare(c, first) < 0)) {
                first = c;
            }
        }
        return first;
    }

    int best(int n, int what) {
        if (!in(n, 1, 3) || what != NONE && !isDebt(what)) {
            return no(BAD);
        }
        if (!plannable(n)) {
            return no(STUCK);
        }
        World from = world.copy();
        from.harm = 0;
        return what == NONE ? leastLoss(from, n) : firstOfBest(n)[what];
    }

    int lose(int s, int n) {
        int not = notRule(s, in(n, 1, 3));
        if (not == 0 && !plannable(n)) {
            not = STUCK;
        }
        if (not != 0) {
            return -1000 + no(not);
        }
        World from = world.copy();
        from.harm = 0;
        return loss(world, (Rule) shelves[s], n) - leastLoss(from, n);
    }

    int write(int debt) {
        if (!isDebt(debt)) {
            return no(BAD);
        }
        Debt d = world.debts.get(debt);
        if (!d.open() || d.written) {
            return no(STUCK);
        }
        int was = d.missed;
        d.missed = 0;
        d.written = true;
        return was;
    }

    int quiet(int s, int n) {
        int not = notRule(s, in(n, 1, 60));
        if (not != 0) {
            return no(not);
        }
        Rule r = (Rule) shelves[s];
        int at = NONE;
        int least = loss(world, r, n);
        for (int i : world.open()) {
            if (!world.debts.get(i).written) {
                World w = world.copy();
                w.debts.get(i).missed = 0;
                w.debts.get(i).written = true;
                if (loss(w, r, n) < least) {
                    at = i;
                    least = loss(w, r, n);
                }
            }
        }
        return at;
    }

    int offer(int s, int n, int debt, int v) {
        int not = notRule(s, in(n, 1, 60) && isDebt(debt) && in(v, 0, 9999) && v <= world.purse);
        if (not == 0 && !world.debts.get(debt).open()) {
            not = STUCK;
        }
        if (not != 0) {
            return -1000000 + no(not);
        }
        Rule r = (Rule) shelves[s];
        World gone = world.copy();
        gone.debts.get(debt).sum = 0;
        gone.purse -= v;
        World a = behind(world, r, n);
        World b = behind(gone, r, n);
        return a.harm + a.sums() + a.spent - b.harm - b.sums() - b.spent - v;
    }

    int one(int s, int n, int rate) {
        int not = notRule(s, in(n, 1, 60) && in(rate, 0, 50));
        if (not == 0 && world.open().isEmpty()) {
            not = STUCK;
        }
        if (not != 0) {
            return no(not);
        }
        World w = world.copy();
        w.intoOne(rate);
        return loss(w, (Rule) shelves[s], n);
    }

    int all(int rate) {
        if (!in(rate, 0, 50)) {
            return no(BAD);
        }
        return world.open().isEmpty() ? no(STUCK) : world.intoOne(rate);
    }

    int holder(int s, int n, int debt) {
        int not = notRule(s, in(n, 1, 60) && isDebt(debt));
        if (not != 0) {
            return no(not);
        }
        World w = world.copy();
        w.debts.get(debt).got = 0;
        return behind(w, (Rule) shelves[s], n).debts.get(debt).got;
    }

    int hangs(int s, int n) {
        int not = notRule(s, in(n, 1, 60));
        if (not == 0 && world.open().isEmpty()) {
            not = STUCK;
        }
        if (not != 0) {
            return no(not);
        }
        int at = NONE;
        long least = Long.MAX_VALUE;
        for (int i : world.open()) {
            World w = world.copy();
            w.debts.get(i).sum = 0;
            int l = loss(w, (Rule) shelves[s], n);
            if (l < least) {
                least = l;
                at = i;
            }
        }
        return at;
    }

    int enough(int s, int n) {
        int not = notRule(s, in(n, 1, 60));
        if (not != 0) {
            return no(not);
        }
        for (int v = 0; v < 100; v++) {
            World w = world.copy();
            Arrays.fill(w.incomes, v);
            if (behind(w, (Rule) shelves[s], n).open().isEmpty()) {
                return v;
            }
        }
        return NONE;
    }

    int seed(int v) {
        int was = world.seed;
        world.seed = v;
        return was;
    }

    int image() {
        kept = world.copy();
        return 1;
    }

    int back() {
        if (kept == null) {
            return no(STUCK);
        }
        world = kept.copy();
        return 1;
    }

    int status(int what) {
        switch (what) {
            case 0: return world.debts.size();
            case 1: return world.open().size();
            case 2: return world.week;
            case 3: return world.purse;
            case 4: return world.harm;
            case 5: return world.sums();
            case 6: return tape.length();
            case 7: return world.seed;
            case 8: return (int) Arrays.stream(shelves).filter(x -> x != null).count();
            case 9: return world.unit;
            case 10: return world.chance;
            default: return in(what, 12, 16) ? refused[what - 10] : NONE;
        }
    }
}
