import java.util.Arrays;

/**
 * Debts that grow each in its own way and bite if they aren't paid for so many weeks, rules by
 * which the coin of a week is parted among them, and what comes of it.
 *
 * <p>The face looks at what it is told and counts what it refuses; the classes inside do the work
 * and are only asked for what can be. All rows are made with the object: no call makes one.
 */
public final class NineDebts {
    public static final int NONE = -1;

    private static final int GOOD = 0;
    private static final int BAD = -2;
    private static final int OTHER = -3;
    private static final int NOTHING = -4;
    private static final int STUCK = -5;
    private static final int FULL = -6;

    private static final int TOO_MUCH = 9;
    private static final int LONGEST_WALK = 20;
    private static final int LONGEST_RUN = 60;
    private static final int LONGEST_BEST = 3;
    private static final int LOSE_BELOW = 1000;
    private static final int OFFER_BELOW = 1000000;

    private final Life now = new Life();
    private final Life kept = new Life();
    private final Life told = new Life();
    private final Shelves shelves = new Shelves();
    private final Tape tape = new Tape();
    private final Parting parting = new Parting();
    private final Trial trial = new Trial();
    private final Plan plan = new Plan();
    private final int[] payments = new int[Life.MOST_DEBTS];
    private final int[] refusals = new int[5];
    private boolean isKept = false;

    public NineDebts() {
    }

    // ---- shelves ----

    public int row(int s, int sort, int n) {
        if (!Shelves.isShelf(s) || !within(sort, 0, Shelves.BOOLEANS) || !within(n, 0, Shelves.MOST_CELLS)) {
            return refuse(BAD);
        }
        shelves.putRow(s, sort, n);
        return 1;
    }

    public int set(int s, int i, long v) {
        int trouble = shelves.rowTrouble(s);
        if (trouble == GOOD && !shelves.hasCell(s, i)) {
            trouble = BAD;
        }
        if (trouble != GOOD) {
            return refuse(trouble);
        }
        shelves.putCell(s, i, v);
        return 1;
    }

    public int copy(int p, int q, int i, int j, int n) {
        int trouble = shelves.copyTrouble(p, q);
        if (trouble == GOOD && !(shelves.hasSpan(p, i, n) && shelves.hasSpan(q, j, n))) {
            trouble = BAD;
        }
        if (trouble != GOOD) {
            return refuse(trouble);
        }
        shelves.moveCells(p, q, i, j, n);
        return n;
    }

    public long element(int s, int i) {
        return shelves.cell(s, i);
    }

    public int holds(int s) {
        return shelves.thing(s);
    }

    public int rule(int s, int kind, int a) {
        if (!Shelves.isShelf(s) || !within(kind, 1, Parting.KEEP) || !within(a, 0, 99)) {
            return refuse(BAD);
        }
        shelves.putRule(s, kind, a);
        return 1;
    }

    public int says(int s, int kind) {
        int trouble = ruleTrouble(s, within(kind, Parting.RULE, Parting.KEEP));
        if (trouble == GOOD && !Parting.isUnder(shelves.ruleKind(s), kind)) {
            trouble = OTHER;
        }
        if (trouble != GOOD) {
            return refuse(trouble);
        }
        switch (kind) {
            case Parting.RULE:
                return shelves.ruleAmount(s);
            case Parting.EVEN:
                return Parting.evenShare(now);
            case Parting.LEASTS:
                return now.leastsTogether();
            default:
                // Not by the kind that it is taken for: LOUD keeps its own order as a DEAR rule.
                return parting.firstInOrder(shelves.ruleKind(s), now);
        }
    }

    // ---- the life ----

    public int debt(int kind, int sum, int rate, int patience, int bite, int least) {
        if (!Life.mayBe(Life.KIND, kind) || !Life.mayBe(Life.SUM, sum) || !Life.mayBe(Life.RATE, rate)
                || !Life.mayBe(Life.PATIENCE, patience) || !Life.mayBe(Life.BITE, bite)
                || !Life.mayBe(Life.LEAST, least)) {
            return refuse(BAD);
        }
        if (!now.hasRoom()) {
            return refuse(FULL);
        }
        return now.addDebt(kind, sum, rate, patience, bite, least);
    }

    public int debtOf(int debt, int what) {
        if (!now.hasDebt(debt) || !within(what, 0, Life.COLUMNS - 1)) {
            return refuse(BAD);
        }
        return now.debts[debt][what];
    }

    public int alter(int debt, int what, int v) {
        if (!now.hasDebt(debt) || !within(what, 0, 3) || !Life.mayBe(Life.RATE + what, v)) {
            return refuse(BAD);
        }
        int before = now.debts[debt][Life.RATE + what];
        now.debts[debt][Life.RATE + what] = v;
        return before;
    }

    public int income(int w, int v) {
        if (!within(w, 0, Life.INCOMES - 1) || !within(v, 0, Life.MOST_INCOME)) {
            return refuse(BAD);
        }
        int before = now.incomes[w];
        now.incomes[w] = v;
        return before;
    }

    public int ask(int what, int v) {
        int before;
        if (what == 0 && within(v, 0, Life.MOST_COINS)) {
            before = now.purse;
            now.purse = v;
        } else if (what == 1 && within(v, 1, Life.MOST_UNIT)) {
            before = now.unit;
            now.unit = v;
        } else if (what == 2 && within(v, 0, Life.MOST_CHANCE)) {
            before = now.chance;
            now.chance = v;
        } else {
            before = refuse(BAD);
        }
        return before;
    }

    public int feed(int v, int n) {
        if (!within(n, 1, 4)) {
            return refuse(BAD);
        }
        if (!tape.hasRoom(n)) {
            return refuse(FULL);
        }
        tape.append(v, n);
        return tape.size();
    }

    public int wipe() {
        int before = tape.size();
        tape.clear();
        return before;
    }

    public int life() {
        told.become(now);
        int answer = tape.tellTo(told);
        tape.clear();
        if (answer < 0) {
            refuse(BAD);
        } else {
            now.become(told);
        }
        return answer;
    }

    public int grows(int debt) {
        return now.hasDebt(debt) ? now.growth(debt, 0) : refuse(BAD);
    }

    public int bites(int debt) {
        return now.hasDebt(debt) ? now.weeksToBite(debt) : refuse(BAD);
    }

    // ---- weeks in truth ----

    public int pays(int s, int debt) {
        int trouble = ruleTrouble(s, now.hasDebt(debt));
        if (trouble != GOOD) {
            return refuse(trouble);
        }
        parting.part(shelves.ruleKind(s), shelves.ruleAmount(s), now);
        return parting.payments[debt];
    }

    public int weeks(int s, int n) {
        int trouble = ruleTrouble(s, within(n, 1, LONGEST_WALK));
        if (trouble != GOOD) {
            return refuse(trouble);
        }
        int paid = 0;
        for (int w = 0; w < n; w++) {
            parting.part(shelves.ruleKind(s), shelves.ruleAmount(s), now);
            paid += now.passWeek(parting.payments, true);
        }
        return paid;
    }

    public int pay(int s) {
        int trouble = shelves.rowTrouble(s);
        if (trouble == GOOD && judgement(s) != NONE) {
            trouble = STUCK;
        }
        if (trouble != GOOD) {
            return refuse(trouble);
        }
        for (int d = 0; d < now.count; d++) {
            payments[d] = (int) shelves.cell(s, d);
        }
        return now.passWeek(payments, true);
    }

    public int judge(int s) {
        int trouble = shelves.rowTrouble(s);
        return trouble == GOOD ? judgement(s) : refuse(trouble);
    }

    // ---- what comes of it ----

    public int run(int s, int n, int what) {
        int trouble = ruleTrouble(s, isRun(n) && within(what, 0, 5));
        if (trouble != GOOD) {
            return refuse(trouble);
        }
        trial.begin(now);
        trial.goOn(shelves, s, n);
        switch (what) {
            case 0:
                return trial.loss();
            case 1:
                return trial.life.harm;
            case 2:
                return trial.life.sumsTogether();
            case 3:
                return trial.paid;
            case 4:
                return trial.weeksTillFree;
            default:
                return trial.life.purse;
        }
    }

    public int head(int n) {
        if (!isRun(n)) {
            return refuse(BAD);
        }
        int first = NONE;
        int least = 0;
        for (int s = 0; s < Shelves.COUNT; s++) {
            if (shelves.ruleTrouble(s) == GOOD) {
                trial.begin(now);
                trial.goOn(shelves, s, n);
                if (first == NONE || trial.loss() < least) {
                    first = s;
                    least = trial.loss();
                }
            }
        }
        return first == NONE ? refuse(STUCK) : first;
    }

    public int best(int n, int what) {
        if (!isBest(n) || !(what == NONE || now.hasDebt(what))) {
            return refuse(BAD);
        }
        if (!Plan.canPlan(now, n)) {
            return refuse(STUCK);
        }
        plan.find(now, n);
        return what == NONE ? plan.loss : plan.first[what];
    }

    public int lose(int s, int n) {
        int trouble = ruleTrouble(s, isBest(n));
        if (trouble == GOOD && !Plan.canPlan(now, n)) {
            trouble = STUCK;
        }
        if (trouble != GOOD) {
            return refuse(trouble) - LOSE_BELOW;
        }
        trial.begin(now);
        trial.goOn(shelves, s, n);
        plan.find(now, n);
        return trial.loss() - plan.loss;
    }

    public int write(int debt) {
        if (!now.hasDebt(debt)) {
            return refuse(BAD);
        }
        if (!now.canWrite(debt)) {
            return refuse(STUCK);
        }
        int before = now.debts[debt][Life.WEEKS];
        now.writeTo(debt);
        return before;
    }

    public int quiet(int s, int n) {
        int trouble = ruleTrouble(s, isRun(n));
        if (trouble != GOOD) {
            return refuse(trouble);
        }
        trial.begin(now);
        trial.goOn(shelves, s, n);
        int least = trial.loss();
        int first = NONE;
        for (int d = 0; d < now.count; d++) {
            if (now.canWrite(d)) {
                trial.begin(now);
                trial.life.writeTo(d);
                trial.goOn(shelves, s, n);
                if (trial.loss() < least) {
                    least = trial.loss();
                    first = d;
                }
            }
        }
        return first;
    }

    public int offer(int s, int n, int debt, int v) {
        boolean good = isRun(n) && now.hasDebt(debt) && within(v, 0, Life.MOST_COINS) && v <= now.purse;
        int trouble = ruleTrouble(s, good);
        if (trouble == GOOD && !now.isOpen(debt)) {
            trouble = STUCK;
        }
        if (trouble != GOOD) {
            return refuse(trouble) - OFFER_BELOW;
        }
        trial.begin(now);
        trial.goOn(shelves, s, n);
        int without = trial.loss() + trial.paid;
        trial.begin(now);
        trial.life.purse -= v;
        trial.life.debts[debt][Life.SUM] = 0;
        trial.goOn(shelves, s, n);
        return without - (trial.loss() + trial.paid + v);
    }

    public int one(int s, int n, int rate) {
        int trouble = ruleTrouble(s, isRun(n) && Life.mayBe(Life.RATE, rate));
        if (trouble == GOOD && now.openCount() == 0) {
            trouble = STUCK;
        }
        if (trouble != GOOD) {
            return refuse(trouble);
        }
        trial.begin(now);
        trial.life.putIntoOne(rate);
        trial.goOn(shelves, s, n);
        return trial.loss();
    }

    public int all(int rate) {
        if (!Life.mayBe(Life.RATE, rate)) {
            return refuse(BAD);
        }
        if (now.openCount() == 0) {
            return refuse(STUCK);
        }
        return now.putIntoOne(rate);
    }

    public int holder(int s, int n, int debt) {
        int trouble = ruleTrouble(s, isRun(n) && now.hasDebt(debt));
        if (trouble != GOOD) {
            return refuse(trouble);
        }
        trial.begin(now);
        trial.goOn(shelves, s, n);
        return trial.life.debts[debt][Life.PAID] - now.debts[debt][Life.PAID];
    }

    public int hangs(int s, int n) {
        int trouble = ruleTrouble(s, isRun(n));
        if (trouble == GOOD && now.openCount() == 0) {
            trouble = STUCK;
        }
        if (trouble != GOOD) {
            return refuse(trouble);
        }
        int first = NONE;
        int least = 0;
        for (int d = 0; d < now.count; d++) {
            if (now.isOpen(d)) {
                trial.begin(now);
                trial.life.debts[d][Life.SUM] = 0;
                trial.goOn(shelves, s, n);
                if (first == NONE || trial.loss() < least) {
                    first = d;
                    least = trial.loss();
                }
            }
        }
        return first;
    }

    public int enough(int s, int n) {
        int trouble = ruleTrouble(s, isRun(n));
        if (trouble != GOOD) {
            return refuse(trouble);
        }
        // One after the other: more income may part the coin otherwise, so a half can't be left out.
        for (int v = 0; v <= Life.MOST_INCOME; v++) {
            trial.begin(now);
            Arrays.fill(trial.life.incomes, v);
            trial.goOn(shelves, s, n);
            if (trial.weeksTillFree != NONE) {
                return v;
            }
        }
        return NONE;
    }

    // ---- draws, what is kept, how things stand ----

    public int seed(int v) {
        int before = now.seed;
        now.seed = v;
        return before;
    }

    public int image() {
        kept.become(now);
        isKept = true;
        return 1;
    }

    public int back() {
        if (!isKept) {
            return refuse(STUCK);
        }
        now.become(kept);
        return 1;
    }

    public int status(int what) {
        switch (what) {
            case 0:
                return now.count;
            case 1:
                return now.openCount();
            case 2:
                return now.week;
            case 3:
                return now.purse;
            case 4:
                return now.harm;
            case 5:
                return now.sumsTogether();
            case 6:
                return tape.size();
            case 7:
                return now.seed;
            case 8:
                return shelves.usedCount();
            case 9:
                return now.unit;
            case 10:
                return now.chance;
            default:
                return within(what, 12, 16) ? refusals[what - 12] : NONE;
        }
    }

    // ---- what the face shares ----

    private static boolean within(int v, int low, int high) {
        return v >= low && v <= high;
    }

    private static boolean isRun(int n) {
        return within(n, 1, LONGEST_RUN);
    }

    private static boolean isBest(int n) {
        return within(n, 1, LONGEST_BEST);
    }

    private int refuse(int why) {
        if (within(why, FULL, BAD)) {
            refusals[BAD - why]++;
        }
        return why;
    }

    /** Why there is no rule to be had from shelf s; a bad number beside it comes first. */
    private int ruleTrouble(int s, boolean numbersAreGood) {
        return numbersAreGood ? shelves.ruleTrouble(s) : BAD;
    }

    /** What judge() tells of the row in shelf s. */
    private int judgement(int s) {
        long all = 0;
        for (int d = 0; d < now.count; d++) {
            long v = shelves.cell(s, d);
            if (v < 0 || v > now.debts[d][Life.SUM]) {
                return d;
            }
            all += v;
        }
        return all > now.coin() ? TOO_MUCH : NONE;
    }

    /** All that image() keeps: the debts, the coin, the weeks and the seed. */
    private static final class Life {
        static final int MOST_DEBTS = 9;
        static final int INCOMES = 12;
        static final int MOST_COINS = 9999;
        static final int MOST_INCOME = 99;
        static final int MOST_UNIT = 50;
        static final int MOST_CHANCE = 10;

        // The columns of a debt's row, as debtOf() counts them.
        static final int KIND = 0;
        static final int SUM = 1;
        static final int RATE = 2;
        static final int PATIENCE = 3;
        static final int BITE = 4;
        static final int LEAST = 5;
        static final int WEEKS = 6;
        static final int WRITTEN = 7;
        static final int PAID = 8;
        static final int COLUMNS = 9;

        // The kinds but for DEBT, whose growth is the one that no other kind has.
        private static final int PARTS = 1;
        private static final int DOUBLES = 2;
        private static final int SLEEPS = 3;
        private static final int FINE = 4;
        private static final int FRIEND = 5;

        // What may be told, column by column, KIND to LEAST.
        private static final int[] LOWEST = {0, 1, 0, 1, 0, 1};
        private static final int[] HIGHEST = {5, 999, 50, 9, 99, 99};

        private static final int SLEEPER_GROWTH = 5;
        private static final int DRAW_BELOW = 10;

        final int[][] debts = new int[MOST_DEBTS][COLUMNS];
        final int[] incomes = new int[INCOMES];
        int count = 0;
        int week = 0;
        int purse = 0;
        int harm = 0;
        int unit = 10;
        int chance = 10;
        int seed = 1;

        Life() {
            Arrays.fill(incomes, 40);
        }

        /** Whether v may be told for a column. */
        static boolean mayBe(int column, int v) {
            return column >= 0 && column < LOWEST.length && v >= LOWEST[column] && v <= HIGHEST[column];
        }

        void become(Life other) {
            for (int d = 0; d < other.count; d++) {
                System.arraycopy(other.debts[d], 0, debts[d], 0, COLUMNS);
            }
            System.arraycopy(other.incomes, 0, incomes, 0, INCOMES);
            count = other.count;
            week = other.week;
            purse = other.purse;
            harm = other.harm;
            unit = other.unit;
            chance = other.chance;
            seed = other.seed;
        }

        boolean hasRoom() {
            return count < MOST_DEBTS;
        }

        boolean hasDebt(int d) {
            return d >= 0 && d < count;
        }

        boolean isOpen(int d) {
            return debts[d][SUM] > 0;
        }

        /** A new debt's number; only while there is room. */
        int addDebt(int kind, int sum, int rate, int patience, int bite, int least) {
            int d = count;
            if (d < MOST_DEBTS) {
                Arrays.fill(debts[d], 0);
                debts[d][KIND] = kind;
                debts[d][SUM] = sum;
                debts[d][RATE] = rate;
                debts[d][PATIENCE] = patience;
                debts[d][BITE] = bite;
                debts[d][LEAST] = least;
                count++;
            }
            return d;
        }

        int openCount() {
            int open = 0;
            for (int d = 0; d < count; d++) {
                open += debts[d][SUM] > 0 ? 1 : 0;
            }
            return open;
        }

        int sumsTogether() {
            int all = 0;
            for (int d = 0; d < count; d++) {
                all += debts[d][SUM];
            }
            return all;
        }

        int leastsTogether() {
            int all = 0;
            for (int d = 0; d < count; d++) {
                all += debts[d][SUM] > 0 ? debts[d][LEAST] : 0;
            }
            return all;
        }

        int coin() {
            return purse + incomeIn(0);
        }

        /** The income so many weeks from now. */
        int incomeIn(int later) {
            return incomes[Math.floorMod(week + later, INCOMES)];
        }

        /** At how many weeks without payment a debt bites. */
        int limit(int d) {
            return debts[d][KIND] == FRIEND ? 2 * debts[d][PATIENCE] : debts[d][PATIENCE];
        }

        private boolean isAsleep(int d) {
            return debts[d][KIND] == SLEEPS && week < debts[d][RATE];
        }

        /** By how much a debt grows at the end of this week, by its sum now, if so much is paid to it in it. */
        int growth(int d, int paid) {
            int sum = debts[d][SUM];
            int rate = debts[d][RATE];
            if (sum <= 0) {
                return 0;
            }
            switch (debts[d][KIND]) {
                case PARTS:
                    return sum * rate / 100;
                case DOUBLES:
                    return rate > 0 && (week + 1) % rate == 0 ? sum : 0;
                case SLEEPS:
                    return week < rate ? 0 : SLEEPER_GROWTH;
                case FINE:
                    return paid < debts[d][LEAST] ? rate : 0;
                case FRIEND:
                    return 0;
                default:
                    return rate;
            }
        }

        /** In how many weeks a debt bites, if nothing is paid to it. */
        int weeksToBite(int d) {
            if (!isOpen(d)) {
                return NONE;
            }
            if (isAsleep(d)) {
                return debts[d][RATE] - week + limit(d);
            }
            return Math.max(1, limit(d) - debts[d][WEEKS]);
        }

        /** A week goes by with these payments, one for each debt: what was paid. */
        int passWeek(int[] payments, boolean inTruth) {
            int coin = coin();
            int all = 0;
            for (int d = 0; d < count; d++) {
                debts[d][SUM] -= payments[d];
                debts[d][PAID] += payments[d];
                all += payments[d];
            }
            purse = Math.min(MOST_COINS, coin - all);
            for (int d = 0; d < count; d++) {
                if (isOpen(d)) {
                    ageDebt(d, payments[d], inTruth);
                }
            }
            week++;
            return all;
        }

        private void ageDebt(int d, int paid, boolean inTruth) {
            int[] debt = debts[d];
            // Less than the sum was paid anyway, as the debt is still open.
            boolean missed = paid < debt[LEAST] && !isAsleep(d);
            debt[WEEKS] = missed ? debt[WEEKS] + 1 : 0;
            if (debt[WEEKS] >= limit(d) && (!inTruth || draw(DRAW_BELOW) < chance)) {
                harm += debt[BITE];
                debt[WEEKS] = 0;
            }
            debt[SUM] = Math.min(MOST_COINS, debt[SUM] + growth(d, paid));
        }

        private int draw(int below) {
            seed = seed * 1103515245 + 12345;
            return below > 0 ? (seed >>> 16) % below : 0;
        }

        boolean canWrite(int d) {
            return isOpen(d) && debts[d][WRITTEN] == 0;
        }

        void writeTo(int d) {
            debts[d][WEEKS] = 0;
            debts[d][WRITTEN] = 1;
        }

        /** All open debts become one: its number, that of the first of them; NONE if none is open. */
        int putIntoOne(int rate) {
            int first = NONE;
            int all = Math.min(MOST_COINS, sumsTogether());
            for (int d = 0; d < count; d++) {
                if (isOpen(d)) {
                    first = first == NONE ? d : first;
                    debts[d][SUM] = 0;
                }
            }
            if (first >= 0) {
                int[] one = debts[first];
                Arrays.fill(one, 0);
                one[KIND] = PARTS;
                one[SUM] = all;
                one[RATE] = rate;
                one[PATIENCE] = 3;
                one[BITE] = 10;
                one[LEAST] = 5;
            }
            return first;
        }
    }

    /** The shelves: each holds nothing, a row or a rule. */
    private static final class Shelves {
        static final int COUNT = 8;
        static final int MOST_CELLS = 40;
        static final int BOOLEANS = 4;
        private static final int BYTES = 0;
        private static final int SHORTS = 1;
        private static final int INTS = 2;
        private static final int LONGS = 3;
        private static final int RULES = 10;

        // NONE, a row's sort, or RULES and a rule's kind: as holds() tells it.
        private final int[] things = new int[COUNT];
        // A row's size, or a rule's a.
        private final int[] numbers = new int[COUNT];
        private final long[][] cells = new long[COUNT][MOST_CELLS];

        Shelves() {
            Arrays.fill(things, NONE);
        }

        static boolean isShelf(int s) {
            return s >= 0 && s < COUNT;
        }

        int thing(int s) {
            return isShelf(s) ? things[s] : NONE;
        }

        private boolean isRow(int s) {
            return thing(s) >= 0 && thing(s) < RULES;
        }

        private boolean isRule(int s) {
            return thing(s) >= RULES;
        }

        int usedCount() {
            int used = 0;
            for (int s = 0; s < COUNT; s++) {
                used += things[s] == NONE ? 0 : 1;
            }
            return used;
        }

        int rowTrouble(int s) {
            if (!isShelf(s)) {
                return BAD;
            }
            if (isRule(s)) {
                return OTHER;
            }
            return isRow(s) ? GOOD : NOTHING;
        }

        int ruleTrouble(int s) {
            if (!isShelf(s)) {
                return BAD;
            }
            if (isRow(s)) {
                return OTHER;
            }
            return isRule(s) ? GOOD : NOTHING;
        }

        int copyTrouble(int p, int q) {
            if (!isShelf(p) || !isShelf(q)) {
                return BAD;
            }
            boolean bothHold = things[p] != NONE && things[q] != NONE;
            if (isRule(p) || isRule(q) || bothHold && things[p] != things[q]) {
                return OTHER;
            }
            return bothHold ? GOOD : NOTHING;
        }

        void putRow(int s, int sort, int size) {
            things[s] = sort;
            numbers[s] = size;
            Arrays.fill(cells[s], 0L);
        }

        void putRule(int s, int kind, int a) {
            things[s] = RULES + kind;
            numbers[s] = a;
        }

        int ruleKind(int s) {
            return isRule(s) ? things[s] - RULES : NONE;
        }

        int ruleAmount(int s) {
            return isRule(s) ? numbers[s] : 0;
        }

        boolean hasCell(int s, int i) {
            return isRow(s) && i >= 0 && i < numbers[s];
        }

        /** Whether n cells from place i on are all in the row; n may be 0. */
        boolean hasSpan(int s, int i, int n) {
            return isRow(s) && i >= 0 && n >= 0 && n <= numbers[s] && i <= numbers[s] - n;
        }

        long cell(int s, int i) {
            return hasCell(s, i) ? cells[s][i] : 0L;
        }

        void putCell(int s, int i, long v) {
            cells[s][i] = cut(things[s], v);
        }

        private static long cut(int sort, long v) {
            switch (sort) {
                case BYTES:
                    return (byte) v;
                case SHORTS:
                    return (short) v;
                case INTS:
                    return (int) v;
                case LONGS:
                    return v;
                default:
                    return v != 0L ? 1L : 0L;
            }
        }

        void moveCells(int p, int q, int i, int j, int n) {
            System.arraycopy(cells[p], i, cells[q], j, n);
        }
    }

    /** The tape, and how a life is read from it. */
    private static final class Tape {
        private static final int MOST_BYTES = 250;
        private static final int MOST_DIGITS = 3;
        private static final int MOST_TOLD_PURSE = 999;
        private static final int BEFORE_FAULTS = -20;

        // The sorts of tokens.
        private static final int END = 0;
        private static final int WORD = 1;
        private static final int NUMBER = 2;
        private static final int SIGN = 3;
        private static final int STRAY = 4;

        private final byte[] bytes = new byte[MOST_BYTES];
        private int size = 0;

        // The token that is looked at: its sort, its first byte, the byte behind it.
        private int sort = END;
        private int from = 0;
        private int behind = 0;
        // NONE, or where the first token stands that can't stand there: nothing is read any more then.
        private int fault = NONE;

        int size() {
            return size;
        }

        void clear() {
            size = 0;
        }

        boolean hasRoom(int n) {
            return size + n <= MOST_BYTES;
        }

        void append(int v, int n) {
            for (int k = n - 1; k >= 0 && size < MOST_BYTES; k--) {
                bytes[size] = (byte) (v >> 8 * k);
                size++;
            }
        }

        /** Tells all statements to a life: how many, or the fault's answer. */
        int tellTo(Life life) {
            int statements = 0;
            fault = NONE;
            behind = 0;
            step();
            readStatement(life);
            statements++;
            while (fault == NONE && sort != END && statements <= MOST_BYTES) {
                readSign();
                readStatement(life);
                statements++;
            }
            return fault == NONE ? statements : BEFORE_FAULTS - fault;
        }

        private void readStatement(Life life) {
            if (life.hasRoom() && take("debt")) {
                readDebt(life);
            } else if (take("purse")) {
                life.purse = readNumber(0, MOST_TOLD_PURSE);
            } else if (take("income")) {
                readIncome(life);
            } else if (take("unit")) {
                life.unit = readNumber(1, Life.MOST_UNIT);
            } else if (take("chance")) {
                life.chance = readNumber(0, Life.MOST_CHANCE);
            } else {
                fail();
            }
        }

        private void readDebt(Life life) {
            int sum = readColumn(Life.SUM);
            if (!take("kind")) {
                fail();
            }
            int kind = readColumn(Life.KIND);
            int rate = take("rate") ? readColumn(Life.RATE) : 0;
            int patience = take("patience") ? readColumn(Life.PATIENCE) : 3;
            int bite = take("bite") ? readColumn(Life.BITE) : 10;
            int least = take("least") ? readColumn(Life.LEAST) : 5;
            life.addDebt(kind, sum, rate, patience, bite, least);
        }

        private void readIncome(Life life) {
            int v = readNumber(0, Life.MOST_INCOME);
            if (take("of")) {
                life.incomes[readNumber(0, Life.INCOMES - 1)] = v;
            } else {
                Arrays.fill(life.incomes, v);
            }
        }

        private int readColumn(int column) {
            return readNumber(Life.LOWEST[column], Life.HIGHEST[column]);
        }

        /** The number that stands here; the lowest one that may be, if it is a fault. */
        private int readNumber(int low, int high) {
            int v = numberHere();
            if (v < low || v > high) {
                fail();
                return low;
            }
            step();
            return v;
        }

        /** The token as a number: NONE if it is none, or too long a one. */
        private int numberHere() {
            if (fault != NONE || sort != NUMBER || behind - from > MOST_DIGITS) {
                return NONE;
            }
            int v = 0;
            for (int k = from; k < behind; k++) {
                v = 10 * v + bytes[k] - '0';
            }
            return v;
        }

        /** Goes on behind this word, if it stands here: whether it does. */
        private boolean take(String word) {
            boolean isHere = isWord(word);
            if (isHere) {
                step();
            }
            return isHere;
        }

        private void readSign() {
            if (sort == SIGN) {
                step();
            } else {
                fail();
            }
        }

        private boolean isWord(String word) {
            if (fault != NONE || sort != WORD || behind - from != word.length()) {
                return false;
            }
            for (int k = 0; k < word.length(); k++) {
                if (bytes[from + k] != word.charAt(k)) {
                    return false;
                }
            }
            return true;
        }

        /** The token that is looked at can't stand here; only the first such counts. */
        private void fail() {
            if (fault == NONE) {
                fault = from;
            }
        }

        /** Looks at the next token; the end of the tape is one, too. */
        private void step() {
            from = behind;
            while (from < size && bytes[from] == ' ') {
                from++;
            }
            behind = from;
            sort = sortAt(from);
            if (sort != END) {
                behind++;
            }
            while (behind < size && (sort == WORD || sort == NUMBER) && sortAt(behind) == sort) {
                behind++;
            }
        }

        /** The sort of a token that has this byte in it. */
        private int sortAt(int place) {
            if (place < 0 || place >= size) {
                return END;
            }
            byte b = bytes[place];
            if (b >= 'a' && b <= 'z') {
                return WORD;
            }
            if (b >= '0' && b <= '9') {
                return NUMBER;
            }
            return b == ';' ? SIGN : STRAY;
        }
    }

    /** How a rule parts the coin of a week. */
    private static final class Parting {
        static final int RULE = 0;
        static final int DEAR = 1;
        static final int SMALL = 2;
        static final int LOUD = 3;
        static final int EVEN = 4;
        static final int LEASTS = 5;
        static final int KEEP = 6;

        // Above any growth, so that among equally loud debts alone the growth counts.
        private static final long LOUDER = 100000L;
        // Above any turn: of a debt that has none, or has had its own.
        private static final long NO_TURN = 1000000000L;

        final int[] payments = new int[Life.MOST_DEBTS];
        // Where each debt stands in the order: the least number first.
        private final long[] turns = new long[Life.MOST_DEBTS];

        static boolean isUnder(int kind, int above) {
            return kind == above || above == RULE || kind == LOUD && above == DEAR || kind == KEEP && above == SMALL;
        }

        /** Fills payments with what each debt is paid. */
        void part(int kind, int a, Life life) {
            Arrays.fill(payments, 0);
            switch (kind) {
                case EVEN:
                    payEvenly(life);
                    break;
                case LEASTS:
                    payInOrder(SMALL, life, payLeasts(life));
                    break;
                case KEEP:
                    payInOrder(SMALL, life, Math.max(0, life.coin() - a));
                    break;
                default:
                    payInOrder(kind, life, life.coin());
                    break;
            }
        }

        static int evenShare(Life life) {
            int open = life.openCount();
            return open > 0 ? life.coin() / open : 0;
        }

        /** The debt that is first in a rule's order; NONE if none is open. */
        int firstInOrder(int kind, Life life) {
            lineUp(kind, life);
            return nextInLine(life.count);
        }

        private void payEvenly(Life life) {
            int share = evenShare(life);
            for (int d = 0; d < life.count; d++) {
                payments[d] = Math.min(share, life.debts[d][Life.SUM]);
            }
        }

        /** Pays each debt its least, by numbers: what is left of the coin. */
        private int payLeasts(Life life) {
            int left = life.coin();
            for (int d = 0; d < life.count; d++) {
                int due = Math.min(life.debts[d][Life.LEAST], life.debts[d][Life.SUM]);
                payments[d] = Math.min(due, left);
                left -= payments[d];
            }
            return left;
        }

        private void payInOrder(int kind, Life life, int coins) {
            int left = coins;
            lineUp(kind, life);
            for (int k = 0; k < life.count && left > 0; k++) {
                int d = nextInLine(life.count);
                if (d < 0) {
                    break;
                }
                int more = Math.min(left, life.debts[d][Life.SUM] - payments[d]);
                payments[d] += more;
                left -= more;
                turns[d] = NO_TURN;
            }
        }

        private void lineUp(int kind, Life life) {
            for (int d = 0; d < life.count; d++) {
                turns[d] = life.isOpen(d) ? turnOf(kind, life, d) : NO_TURN;
            }
        }

        private static long turnOf(int kind, Life life, int d) {
            switch (kind) {
                case DEAR:
                    return -life.growth(d, 0);
                case LOUD:
                    return (life.limit(d) - life.debts[d][Life.WEEKS]) * LOUDER - life.growth(d, 0);
                default:
                    return life.debts[d][Life.SUM];
            }
        }

        private int nextInLine(int count) {
            int next = NONE;
            long least = NO_TURN;
            for (int d = 0; d < count; d++) {
                if (turns[d] < least) {
                    next = d;
                    least = turns[d];
                }
            }
            return next;
        }
    }

    /** A run: weeks that go by on a copy of a life, each bite coming. */
    private static final class Trial {
        final Life life = new Life();
        private final Parting parting = new Parting();
        int paid = 0;
        int weeksTillFree = NONE;

        void begin(Life from) {
            life.become(from);
            life.harm = 0;
            paid = 0;
            weeksTillFree = NONE;
        }

        /** So many weeks go by, by the rule in shelf s. */
        void goOn(Shelves shelves, int s, int n) {
            int kind = shelves.ruleKind(s);
            int a = shelves.ruleAmount(s);
            lookWhetherFree(0);
            for (int w = 1; w <= n; w++) {
                parting.part(kind, a, life);
                paid += life.passWeek(parting.payments, false);
                lookWhetherFree(w);
            }
        }

        private void lookWhetherFree(int weeks) {
            if (weeksTillFree == NONE && life.openCount() == 0) {
                weeksTillFree = weeks;
            }
        }

        int loss() {
            return life.harm + life.sumsTogether();
        }
    }

    /** The best payments of some weeks, found by trying all that may be. */
    private static final class Plan {
        private static final int MOST_OPEN = 3;
        private static final int MOST_UNITS = 6;

        // How things stand ahead of each week and behind the last one.
        private final Life atFirst = new Life();
        private final Life afterOne = new Life();
        private final Life afterTwo = new Life();
        private final Life afterThree = new Life();
        private final int[][] payments = new int[LONGEST_BEST][Life.MOST_DEBTS];
        private int weeks = 0;
        private boolean isFound = false;

        int loss = 0;
        /** What each debt is paid in the first week. */
        final int[] first = new int[Life.MOST_DEBTS];

        static boolean canPlan(Life life, int n) {
            int coins = life.coin();
            for (int w = 1; w < n; w++) {
                coins += life.incomeIn(w);
            }
            return life.openCount() <= MOST_OPEN && life.unit > 0 && coins / life.unit <= MOST_UNITS;
        }

        void find(Life from, int n) {
            atFirst.become(from);
            atFirst.harm = 0;
            weeks = n;
            isFound = false;
            goOn(0, 0, atFirst.coin());
        }

        /** Goes on from debt d of this week: behind the last one the week ends. */
        private void goOn(int week, int d, int left) {
            if (d < lifeAfter(week).count) {
                tryPayments(week, d, left);
            } else {
                endWeek(week);
            }
        }

        /** Tries all payments to debt d, the least first: of several plans that lose the same, the first stays. */
        private void tryPayments(int week, int d, int left) {
            Life life = lifeAfter(week);
            int sum = life.debts[d][Life.SUM];
            int most = Math.min(sum, left);
            int unit = Math.max(1, life.unit);
            for (int v = 0; v <= most; v += unit) {
                payments[week][d] = v;
                goOn(week, d + 1, left - v);
            }
            if (sum <= left && sum % unit != 0) {
                payments[week][d] = sum;
                goOn(week, d + 1, left - sum);
            }
        }

        private void endWeek(int week) {
            Life next = lifeAfter(week + 1);
            next.become(lifeAfter(week));
            next.passWeek(payments[week], false);
            if (week + 1 < weeks && week + 1 < LONGEST_BEST) {
                goOn(week + 1, 0, next.coin());
            } else {
                weigh(next);
            }
        }

        private Life lifeAfter(int week) {
            switch (week) {
                case 0:
                    return atFirst;
                case 1:
                    return afterOne;
                case 2:
                    return afterTwo;
                default:
                    return afterThree;
            }
        }

        private void weigh(Life end) {
            int loses = end.harm + end.sumsTogether();
            if (!isFound || loses < loss) {
                isFound = true;
                loss = loses;
                System.arraycopy(payments[0], 0, first, 0, first.length);
            }
        }
    }
}
