/** The tape's edges: every byte, every length, every place where a statement may end. */
final class TapeTest {
    private static final String WHOLE = "debt 12 kind 3 rate 7 patience 2 bite 9 least 4;income 5 of 3;unit 8";

    private static final String WORDS = " debt kind rate patience bite least income of unit ";

    private final Checks checks;

    private TapeTest(Checks checks) {
        this.checks = checks;
    }

    static void runAll(Checks checks) {
        TapeTest t = new TapeTest(checks);
        checks.begin("the tape");
        t.everyByteInAWord();
        t.everyByteInANumber();
        t.everyByteAhead();
        t.everyDigit();
        t.longest();
        t.sizes();
        t.perhaps();
        t.prefixes();
        t.blanks();
        t.numbers();
        t.firstFault();
        t.room();
        t.toWhatThereIs();
    }

    private void due(String what, long want, long got) {
        checks.same(what, want, got);
    }

    private void read(int answer, String text) {
        due("\"" + text + "\"", answer, Lives.read(new NineDebts(), text));
    }

    private static boolean isLetter(int b) {
        return b >= 97 && b <= 122;
    }

    private static boolean isDigit(int b) {
        return b >= 48 && b <= 57;
    }

    /** "purse" and this byte and "5": one word, two tokens, or a byte that begins none. */
    private void everyByteInAWord() {
        for (int b = 0; b <= 255; b++) {
            boolean goes = b == 32 || isDigit(b);
            read(goes ? 1 : isLetter(b) ? -20 : -25, "purse" + (char) b + "5");
        }
    }

    /** "purse 5", this byte and "6": one number, two, or a token that can't stand there. */
    private void everyByteInANumber() {
        for (int b = 0; b <= 255; b++) {
            int answer = isDigit(b) ? 1 : b == 32 || b == 59 ? -28 : -27;
            read(answer, "purse 5" + (char) b + "6");
        }
    }

    private void everyByteAhead() {
        for (int b = 0; b <= 255; b++) {
            read(b == 32 ? 1 : -20, (char) b + "purse 5");
        }
    }

    private void everyDigit() {
        for (int v = 0; v <= 999; v += 37) {
            NineDebts x = Lives.of("purse " + v);
            due("purse", v, x.status(3));
        }
        NineDebts y = Lives.of("purse 098;unit 07");
        due("noughts ahead", 98, y.status(3));
        due("noughts ahead", 7, y.status(9));
    }

    /** Tokens can be as long as the tape; the fault is still their first byte. */
    private void longest() {
        read(-20, "z".repeat(250));
        read(-22, "  " + "purse".repeat(49));
        read(-25, "unit " + "0".repeat(245));
        read(-25, "unit " + "0".repeat(244) + "7");
        read(-26, "purse " + "4294967301");
        read(-26, "purse " + "18446744073709551621");
        read(41, "unit1" + ";unit1".repeat(40));
    }

    private void sizes() {
        NineDebts x = new NineDebts();
        due("blanks alone", -270, Lives.read(x, " ".repeat(250)));
        due("a statement at the very end", 1, Lives.read(x, " ".repeat(244) + "unit 7"));
        due("unit", 7, x.status(9));
        due("a sign at the very end", -270, Lives.read(x, " ".repeat(243) + "unit 6;"));
        due("nothing of it", 7, x.status(9));
        due("a fault at the very end", -269, Lives.read(x, " ".repeat(242) + "unit 6;;"));
        Lives.feed(x, " ".repeat(244) + "unit 9");
        due("no byte more", -6, x.feed('9', 1));
        due("it stays as it was", 1, x.life());
        due("unit", 9, x.status(9));
        due("room again", 4, x.feed(0x20202020, 4));
    }

    /** A debt's parts, each told or not: what isn't told is 0, 3, 10, 5. */
    private void perhaps() {
        String[] words = {"rate", "patience", "bite", "least"};
        int[] told = {8, 7, 6, 4};
        int[] untold = {0, 3, 10, 5};
        for (int set = 0; set < 16; set++) {
            StringBuilder text = new StringBuilder("debt 30 kind 2");
            for (int k = 0; k < 4; k++) {
                text.append((set >> k & 1) == 1 ? " " + words[k] + " " + told[k] : "");
            }
            NineDebts x = new NineDebts();
            due(text.toString(), 1, Lives.read(x, text.toString()));
            for (int k = 0; k < 4; k++) {
                due(words[k] + " of " + text, (set >> k & 1) == 1 ? told[k] : untold[k], x.debtOf(0, 2 + k));
            }
            due("kind", 2, x.debtOf(0, 0));
            due("sum", 30, x.debtOf(0, 1));
        }
        for (int k = 0; k < 4; k++) {
            for (int later = 0; later <= k; later++) {
                read(-35 - words[k].length() - 3, "debt 30 kind 2 " + words[k] + " 4 " + words[later] + " 4");
            }
        }
    }

    /** The tape ends behind each byte of three statements: too early, in the middle of a word, or where it may. */
    private void prefixes() {
        for (int size = 0; size <= WHOLE.length(); size++) {
            String text = WHOLE.substring(0, size);
            int word = size;
            while (word > 0 && isLetter(text.charAt(word - 1))) {
                word--;
            }
            boolean isCut = word < size && !WORDS.contains(" " + text.substring(word) + " ");
            boolean mayEnd = text.trim().matches("debt 12 kind (3|3.*[0-9])");
            int statements = 1 + (int) text.chars().filter(c -> c == ';').count();
            read(isCut ? -20 - word : mayEnd ? statements : -20 - size, text);
        }
    }

    private void blanks() {
        NineDebts x = new NineDebts();
        due("none", 3, Lives.read(x, WHOLE.replace(" ", "")));
        due("many", 3, Lives.read(x, "   " + WHOLE.replace(" ", "    ").replace(";", "  ;   ") + "   "));
        for (int what = 0; what < 9; what++) {
            due("debtOf " + what, x.debtOf(0, what), x.debtOf(1, what));
        }
        due("unit", 8, x.status(9));
        read(-20, "pur se 5");
        read(-20, "un it 5");
        read(-28, "purse 1 2");
        read(-29, "income 9 o f 2");
        read(-29, "income 9 o");
    }

    /** The least, the most, and one beside them, of each number. */
    private void numbers() {
        String[] ahead = {"debt ", "debt 5 kind ", "debt 5 kind 0 rate ", "debt 5 kind 0 patience ",
            "debt 5 kind 0 bite ", "debt 5 kind 0 least ", "purse ", "income ", "income 5 of ", "unit ", "chance "};
        String[] behind = {" kind 0", "", "", "", "", "", "", "", "", "", ""};
        int[] least = {1, 0, 0, 1, 0, 1, 0, 0, 0, 1, 0};
        int[] most = {999, 5, 50, 9, 99, 99, 999, 99, 11, 50, 10};
        for (int k = 0; k < ahead.length; k++) {
            int fault = -20 - ahead[k].length();
            read(1, ahead[k] + least[k] + behind[k]);
            read(1, ahead[k] + most[k] + behind[k]);
            read(fault, ahead[k] + (most[k] + 1) + behind[k]);
            read(least[k] == 0 ? 1 : fault, ahead[k] + 0 + behind[k]);
            read(fault, ahead[k] + "-" + least[k] + behind[k]);
            read(fault, ahead[k] + "0000" + behind[k]);
            read(1, ahead[k] + "00" + Math.max(1, least[k]) + behind[k]);
            read(fault, ahead[k] + "000" + Math.max(1, least[k]) + behind[k]);
            read(fault, ahead[k] + "of" + behind[k]);
            read(fault, ahead[k] + ";" + behind[k]);
        }
    }

    private void firstFault() {
        read(-25, "unit 51;unit 0");
        read(-32, "unit 5;unit 0;nothing");
        read(-20, "nothing;unit 0");
        read(-25, "unit x;;");
        read(-31, "unit 1;unit;;");
        read(-26, "debt 5;purse 3");
        read(-26, "debt 5;0");
        read(-31, "debt 5 kind;0");
        read(-24, "debt;5 kind 0");
    }

    /** What there is no room for is a fault at its word, ahead of all behind it. */
    private void room() {
        StringBuilder nine = new StringBuilder("debt1kind0");
        for (int d = 1; d < 9; d++) {
            nine.append(";debt1kind0");
        }
        NineDebts x = new NineDebts();
        due("nine of ten", -20 - 99, Lives.read(x, nine + ";debt1kind0"));
        due("none of them", 0, x.status(0));
        due("nine", 9, Lives.read(x, nine.toString()));
        due("debts", 9, x.status(0));
        due("the word, whatever stands behind it", -20, Lives.read(x, "debt"));
        due("the word, whatever stands behind it", -20, Lives.read(x, "debt 0"));
        due("the word, whatever stands behind it", -21, Lives.read(x, " debt!"));
        due("another word is longer", -20, Lives.read(x, "debts 5"));
        due("others have room", 1, Lives.read(x, "unit 5"));
        NineDebts y = new NineDebts();
        y.debt(0, 1, 0, 1, 0, 1);
        due("nine beside one", -20 - 88, Lives.read(y, nine.toString()));
        due("one still", 1, y.status(0));
    }

    /** All comes to what there is: what isn't told stays. */
    private void toWhatThereIs() {
        NineDebts x = Lives.of("debt 50 kind 0 rate 3 patience 1 bite 4;purse 6");
        x.rule(0, 6, 99);
        x.weeks(0, 2);
        x.seed(5);
        String before = Lives.picture(x);
        due("a fault", -33, Lives.read(x, "purse 5;unit 0;chance 3"));
        checks.yes("nothing of it", Lives.picture(x).equals(before));
        due("a second debt", 2, Lives.read(x, "debt 7 kind 1;income 8 of 2"));
        Lives.status(checks, x, 2, 2, 2, 86, 8, 63, 0, 5, 1, 10, 10, -1);
        due("income 2", 8, x.income(2, 8));
        due("income 1", 40, x.income(1, 40));
        due("the coin now", 94, x.run(0, 1, 5));
    }
}
