/** Ways to set up an object that several tests share. */
final class Lives {
    private Lives() {
    }

    /** Feeds a text byte by byte. */
    static void feed(NineDebts x, String text) {
        for (int k = 0; k < text.length(); k++) {
            x.feed(text.charAt(k), 1);
        }
    }

    /** What life() answers to a text. */
    static int read(NineDebts x, String text) {
        feed(x, text);
        return x.life();
    }

    static NineDebts of(String text) {
        NineDebts x = new NineDebts();
        read(x, text);
        return x;
    }

    /** Shelf k holds the rule of kind k, by a; shelves 0 and 7 hold nothing. */
    static NineDebts withRules(String text, int a) {
        NineDebts x = of(text);
        for (int kind = 1; kind <= 6; kind++) {
            x.rule(kind, kind, a);
        }
        return x;
    }

    /** Shelf s holds a row of ints with these elements. */
    static void row(NineDebts x, int s, int... cells) {
        x.row(s, 2, cells.length);
        for (int i = 0; i < cells.length; i++) {
            x.set(s, i, cells[i]);
        }
    }

    /** Holds all of status() against what is due: a word for each is not needed, its number tells it. */
    static void status(Checks checks, NineDebts x, int... due) {
        for (int what = 0; what < due.length; what++) {
            checks.same("status(" + what + ")", due[what], x.status(what));
        }
    }

    /** How often all that is refused was refused. */
    static void refusals(Checks checks, NineDebts x, int... due) {
        for (int k = 0; k < due.length; k++) {
            checks.same("refusals of " + (-2 - k), due[k], x.status(12 + k));
        }
    }

    /** All that can be seen of an object, but for how often it refused: rows up to their sixth element. */
    static String picture(NineDebts x) {
        StringBuilder text = new StringBuilder();
        for (int what = 0; what <= 11; what++) {
            text.append(x.status(what)).append(' ');
        }
        for (int d = 0; d < x.status(0); d++) {
            for (int what = 0; what <= 8; what++) {
                text.append(x.debtOf(d, what)).append(' ');
            }
        }
        for (int w = 0; w < 12; w++) {
            int v = x.income(w, 0);
            x.income(w, v);
            text.append(v).append(' ');
        }
        for (int s = 0; s < 8; s++) {
            text.append(x.holds(s)).append(' ');
            text.append(x.holds(s) >= 10 ? x.says(s, 0) : 0).append(' ');
            for (int i = 0; i < 6; i++) {
                text.append(x.element(s, i)).append(' ');
            }
        }
        return text.toString();
    }

    /** How often all was refused, in one text. */
    static String refusals(NineDebts x) {
        StringBuilder text = new StringBuilder();
        for (int what = 12; what <= 16; what++) {
            text.append(x.status(what)).append(' ');
        }
        return text.toString();
    }
}
