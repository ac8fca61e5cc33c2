/** What comes of it by each of the six rules: shelf k holds the rule of kind k, and each answers another thing. */
final class ByRuleTest {
    private final Checks checks;

    private ByRuleTest(Checks checks) {
        this.checks = checks;
    }

    static void runAll(Checks checks) {
        ByRuleTest t = new ByRuleTest(checks);
        checks.begin("by each rule");
        t.twoWeeks();
        t.inTruth();
        t.head();
        t.lose();
        t.quiet();
        t.hangs();
    }

    private void due(String what, long want, long got) {
        checks.same(what, want, got);
    }

    private static NineDebts four() {
        return Lives.withRules("income 30;purse 25;debt 60 kind 1 rate 20 patience 2 bite 9 least 12;"
                + "debt 25 kind 0 rate 3 patience 1 bite 4 least 6;debt 40 kind 5 patience 1 bite 11 least 4;"
                + "debt 28 kind 4 rate 13 patience 3 bite 30 least 8", 10);
    }

    private void twoWeeks() {
        NineDebts x = four();
        int[][] runs = {{100, 19, 81, 85, -1, 0}, {103, 9, 94, 85, -1, 0}, {107, 0, 107, 85, -1, 0},
            {93, 0, 93, 84, -1, 1}, {86, 0, 86, 85, -1, 0}, {113, 9, 104, 75, -1, 10}};
        int[][] paid = {{57, 0, 0, 28}, {0, 25, 32, 28}, {30, 25, 30, 0}, {21, 21, 21, 21}, {24, 25, 8, 28},
            {0, 25, 22, 28}};
        int[][] offers = {{79, 24, 36, 26}, {85, 16, 43, 20}, {76, 22, 39, 40}, {68, 22, 31, 19}, {68, 15, 30, 18},
            {85, 15, 41, 18}};
        int[] enough = {66, 70, 71, 87, 69, 75};
        int[] one = {115, 115, 115, 115, 115, 131};
        for (int s = 1; s <= 6; s++) {
            for (int what = 0; what < 6; what++) {
                due("run(" + s + ", 2, " + what + ")", runs[s - 1][what], x.run(s, 2, what));
            }
            for (int d = 0; d < 4; d++) {
                due("holder(" + s + ", 2, " + d + ")", paid[s - 1][d], x.holder(s, 2, d));
                due("offer(" + s + ", 2, " + d + ", 10)", offers[s - 1][d], x.offer(s, 2, d, 10));
            }
            due("enough(" + s + ", 2)", enough[s - 1], x.enough(s, 2));
            due("one(" + s + ", 2, 25)", one[s - 1], x.one(s, 2, 25));
        }
    }

    /** What a run tells comes so in truth, if each bite comes. */
    private void inTruth() {
        for (int s = 1; s <= 6; s++) {
            for (int n = 1; n <= 20; n++) {
                NineDebts x = four();
                int paid = x.run(s, n, 3);
                int harm = x.run(s, n, 1);
                int sums = x.run(s, n, 2);
                int purse = x.run(s, n, 5);
                int first = x.holder(s, n, 0);
                due("paid", paid, x.weeks(s, n));
                due("harm", harm, x.status(4));
                due("sums", sums, x.status(5));
                due("purse", purse, x.status(3));
                due("the first debt's", first, x.debtOf(0, 8));
            }
        }
    }

    private void head() {
        NineDebts x = Lives.withRules("chance 0;income 17;debt 47 kind 0 rate 2 patience 3 bite 24 least 5;"
                + "debt 17 kind 0 rate 9 patience 1 bite 9 least 3;debt 57 kind 5 rate 12 patience 2 bite 12 least 8", 3);
        x.row(0, 0, 0);
        x.pay(0);
        x.ask(0, 2);
        int[][] losses = {{124, 124, 124, 125, 124, 127}, {133, 133, 133, 118, 118, 145},
            {130, 130, 118, 126, 112, 142}};
        int[] heads = {1, 4, 5, 3, 3, 3};
        for (int n = 1; n <= 6; n++) {
            for (int s = 1; s <= 6 && n <= 3; s++) {
                due("run(" + s + ", " + n + ", 0)", losses[n - 1][s - 1], x.run(s, n, 0));
            }
            due("head(" + n + ")", heads[n - 1], x.head(n));
        }
    }

    private void lose() {
        NineDebts x = Lives.withRules("unit 20;income 33;debt 45 kind 1 rate 20 patience 1 bite 7 least 12;"
                + "debt 38 kind 0 rate 6 patience 2 bite 20 least 5;debt 52 kind 2 rate 2 patience 1 bite 4 least 9", 10);
        int[] best = {130, 132, 115};
        int[][] first = {{20, 0, 0}, {0, 0, 20}, {20, 0, 0}};
        int[][] lost = {{-16, -2, -16, -9, -16, 8}, {3, 10, 3, 4, -6, 30}, {7, 13, -7, 5, -12, 24}};
        for (int n = 1; n <= 3; n++) {
            due("best(" + n + ", NONE)", best[n - 1], x.best(n, -1));
            for (int d = 0; d < 3; d++) {
                due("best(" + n + ", " + d + ")", first[n - 1][d], x.best(n, d));
            }
            for (int s = 1; s <= 6; s++) {
                due("lose(" + s + ", " + n + ")", lost[n - 1][s - 1], x.lose(s, n));
            }
        }
        due("a week by EVEN", 33, x.weeks(4, 1));
        int[] then = {-1, 4, -1, 2, -10, 23};
        due("the best of two weeks from then on", 111, x.best(2, -1));
        for (int s = 1; s <= 6; s++) {
            due("lose(" + s + ", 2) then", then[s - 1], x.lose(s, 2));
        }
    }

    private void quiet() {
        NineDebts x = Lives.withRules("chance 0;income 38;debt 40 kind 1 rate 5 patience 2 bite 8 least 9;"
                + "debt 8 kind 2 rate 15 patience 3 bite 15 least 2;debt 16 kind 5 rate 2 patience 1 bite 19 least 11;"
                + "debt 26 kind 4 rate 11 patience 3 bite 3 least 7", 8);
        x.row(0, 0, 0);
        x.pay(0);
        x.pay(0);
        x.ask(0, 3);
        int[][] quiets = {{2, 3, 0, 2, -1, 3}, {1, 3, 0, 2, -1, 3}};
        for (int s = 1; s <= 6; s++) {
            due("quiet(" + s + ", 1)", quiets[0][s - 1], x.quiet(s, 1));
            due("quiet(" + s + ", 2)", quiets[1][s - 1], x.quiet(s, 2));
        }
        NineDebts y = Lives.withRules("income 0;chance 0;debt 50 kind 1 rate 50 patience 3 bite 0 least 1;"
                + "debt 50 kind 5 patience 2 bite 0 least 1", 0);
        y.row(0, 0, 0);
        y.pay(0);
        y.pay(0);
        y.ask(0, 10);
        due("LOUD pays the first: 102 and 51, and 50", 203, y.run(3, 1, 0));
        due("a letter to it would lose more", -1, y.quiet(3, 1));
        y.write(0);
        due("as then LOUD pays the second: 112 and 56, and 40", 208, y.run(3, 1, 0));
    }

    private void hangs() {
        NineDebts x = Lives.withRules("income 7;purse 8;debt 44 kind 5 rate 1 patience 3 bite 11 least 12;"
                + "debt 49 kind 4 rate 11 patience 1 bite 16 least 1;debt 37 kind 1 rate 18 patience 3 bite 26 least 7;"
                + "debt 24 kind 2 rate 5 patience 1 bite 28 least 2", 6);
        int[][] hangs = {{1, 1, 1, 1, 0, 1}, {3, 1, 1, 1, 0, 1}, {3, 1, 1, 2, 0, 1}};
        for (int n = 1; n <= 3; n++) {
            for (int s = 1; s <= 6; s++) {
                due("hangs(" + s + ", " + n + ")", hangs[n - 1][s - 1], x.hangs(s, n));
            }
        }
    }
}
