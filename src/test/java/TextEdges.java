/** The edges of the tape and of what it tells: promises 1 to 8, MILLS and FAULTS. */
final class TextEdges {
    /** Each clause: its word, the least and the most of each number, numbers that may stand there. */
    private record Clause(String word, int[] least, int[] most, int[] good) {
        String with(int place, String number) {
            StringBuilder text = new StringBuilder(word);
            for (int k = 0; k < good.length; k++) {
                text.append(' ').append(k == place ? number : String.valueOf(good[k]));
            }
            return text.append(';').toString();
        }

        /** Where a number stands in it. */
        int placeOf(int number) {
            int place = word.length() + 1;
            for (int k = 0; k < number; k++) {
                place += String.valueOf(good[k]).length() + 1;
            }
            return place;
        }
    }

    private static final Clause[] CLAUSES = {
        new Clause("river", row(0, 0), row(23, 9), row(5, 5)),
        new Clause("upper", row(1, 0, 1), row(40, 40, 4), row(30, 7, 2)),
        new Clause("lower", row(1, 0, 1), row(40, 40, 4), row(30, 7, 2)),
        new Clause("begin", row(0, 0), row(40, 40), row(0, 0)),
        new Clause("back", row(0), row(40), row(11)),
        new Clause("sack", row(1), row(99), row(11)),
        new Clause("hours", row(0, 0, 0), row(1, 23, 23), row(0, 0, 23)),
        new Clause("ice", row(0, 0), row(23, 23), row(0, 23)),
        new Clause("oven", row(1, 0, 0), row(9, 99, 99), row(3, 10, 10)),
    };

    /** Ahead of and behind a clause, so that what it tells of ponds is no fault at the end. */
    private static final String WIDE = "upper 40 0 1;lower 40 0 1;begin 0 0;";
    private static final String EMPTY = "begin 0 0;";

    private TextEdges() {
    }

    static void all() {
        newObjects();
        tape();
        readings();
        faultPlaces();
        answersOfTheText();
        numbers();
        endsTooEarly();
        lastCounts();
        rivers();
        ponds();
        words();
        blanks();
        firstFromTheLeft();
        tooMany();
        tooFull();
    }

    private static int[] row(int... numbers) {
        return numbers;
    }

    private static void fault(String text, int kind, int place) {
        RivalMills x = new RivalMills();
        Due.is("mills of '" + text + "'", Due.tell(x, text), kind - 10);
        Due.is("fault of '" + text + "'", x.fault(), place);
        Due.is("tape behind '" + text + "'", x.count(1), 0);
    }

    private static void good(String text) {
        RivalMills x = new RivalMills();
        Due.is("mills of '" + text + "'", Due.tell(x, text), x.told(2));
        Due.is("fault of '" + text + "'", x.fault(), -1);
    }

    /** All that the text tells is without clauses, and nothing is opened. */
    private static void untold(RivalMills x) {
        int[] pond = {20, 5, 1, 10, 0, 23};
        int[] rest = {40, 10, 0, -1, -1, 0};
        for (int what = 0; what < 6; what++) {
            Due.is("mill(0, " + what + ")", x.mill(0, what), pond[what]);
            Due.is("mill(1, " + what + ")", x.mill(1, what), pond[what]);
            Due.is("told(" + what + ")", x.told(what), rest[what]);
        }
        for (int q = 0; q < 96; q++) {
            Due.is("river(" + q + ")", x.river(q), 2);
            Due.is("open(0, " + q + ")", x.open(0, q), 0);
            Due.is("open(1, " + q + ")", x.open(1, q), 0);
        }
        Due.noSuch("oven(0, 0)", () -> x.oven(0, 0));
        Due.is("images", x.count(0), 0);
    }

    private static void newObjects() {
        Edge.of(1, "MILLS without CLAUSES; PLANS that open nothing.", () -> {
            untold(new RivalMills());
            String all = "river 1 1;upper 30 1 2;lower 31 2 3;begin 3 4;back 5;sack 6;hours 0 7 8;hours 1 9 9;ice 10 11;"
                + "oven 1 2 3;";
            // nothing of it is left, nor of the one ahead of it
            RivalMills x = Due.of(all);
            Due.is("told twice", Due.tell(x, all), 1);
            for (int round = 0; round < 3; round++) {
                x.plan(0, 7, 3);
                x.weed(0, 0);
                x.image();
                Due.is("mills(0)", x.mills(0), 0);
                untold(x);
            }
        });
    }

    private static void tape() {
        Edge.of(2, "of each number the highest first", () -> {
            for (int place = 0; place < 20; place++) {
                StringBuilder text = new StringBuilder(" ".repeat(20));
                text.setCharAt(place, ';');
                fault(text.toString(), 1, place);
            }
            for (int place = 0; place < 20; place++) {
                StringBuilder text = new StringBuilder(" ".repeat(20));
                text.setCharAt(place, (char) 255);
                fault(text.toString(), 1, place);
            }
        });
        Edge.of(2, "NONE, doing nothing, if there would be more than 500", () -> {
            RivalMills x = new RivalMills();
            String full = "back 9;" + " ".repeat(486) + "sack 8;";
            RivalMills y = new RivalMills();
            Due.is("500 bytes are read", Due.tell(y, full), 0);
            fillTape(x, full);
            Due.is("full", x.count(1), 500);
            for (int k = 0; k < 3; k++) {
                Due.is("feed of a full tape", x.feed(-1, -1, -1, -1, -1), -1);
                Due.is("still full", x.count(1), 500);
            }
            Due.is("what stands there is as it was", x.mills(500), 0);
            Due.is("its first", x.told(0), 9);
            Due.is("its last", x.told(1), 8);
            Due.is("no call was refused", x.status(0) + x.status(1) + x.status(2), 0);
            fillTape(x, full);
            Due.is("full again", x.count(1), 500);
        });
    }

    private static void fillTape(RivalMills x, String text) {
        for (int k = 0; k < 25; k++) {
            int[] five = new int[5];
            for (int at = 0; at < 20; at++) {
                five[at / 4] = five[at / 4] << 8 | text.charAt(20 * k + at);
            }
            Due.is("feed " + k, x.feed(five[0], five[1], five[2], five[3], five[4]), 20 * k + 20);
        }
    }

    private static void readings() {
        Edge.of(3, "The first n bytes of the TAPE (empty then) are the MILLS", () -> {
            String text = "back 7;sack 6;oven 1 2 3;";
            int[] lengths = {0, 7, 14, 25};
            int[] marks = {40, 7, 7, 7};
            int[] sacks = {10, 10, 6, 6};
            for (int k = 0; k < lengths.length; k++) {
                RivalMills x = new RivalMills();
                Due.is("ovens of the first " + lengths[k], Due.tell(x, text, lengths[k]), k == 3 ? 1 : 0);
                Due.is("empty then", x.count(1), 0);
                Due.is("M of the first " + lengths[k], x.told(0), marks[k]);
                Due.is("U of the first " + lengths[k], x.told(1), sacks[k]);
                Due.illegal("nothing is left of it", () -> x.mills(1));
            }
        });
        Edge.of(3, "(PLANS open nothing; no WEEDS, IMAGES)", () -> {
            RivalMills x = used();
            Due.is("mills", Due.tell(x, "oven 1 2 3;"), 1);
            for (int q = 0; q < 96; q++) {
                Due.is("set(0, " + q + ", 0)", x.set(0, q, 0), 0);
                Due.is("set(1, " + q + ", 0)", x.set(1, q, 0), 0);
            }
            Due.is("weeds", x.told(5), 0);
            Due.is("clear", x.clear(), 0);
            Due.is("images", x.count(0), 0);
            Due.is("restore", x.restore(), -1);
        });
        Edge.of(3, "or the FAULT less 10 (all stays)", () -> {
            String[] texts = {"back x;", "back 41;", "oven 1 1 1;".repeat(9), "upper 9 0 1;"};
            for (int kind = 1; kind <= 4; kind++) {
                RivalMills x = used();
                Due.is("fault " + kind, Due.tell(x, texts[kind - 1]), kind - 10);
                stays(x);
            }
        });
        Edge.of(3, "IllegalArgumentException: n is not 0 to the TAPE's bytes (it stays)", () -> {
            RivalMills x = used();
            int[] none = {-1, 1, Integer.MIN_VALUE, Integer.MAX_VALUE};
            for (int n : none) {
                Due.illegal("mills(" + n + ") of an empty tape", () -> x.mills(n));
            }
            x.feed(0x6261636b, 0x20333b00, 0, 0, 0);
            for (int n : row(-1, 21, 500, Integer.MIN_VALUE, Integer.MAX_VALUE)) {
                Due.illegal("mills(" + n + ") of twenty bytes", () -> x.mills(n));
                Due.is("it stays", x.count(1), 20);
            }
            stays(x);
            Due.is("refused", x.status(2), 9);
            Due.is("it is read yet", x.mills(7), 0);
            Due.is("as it was told", x.told(0), 3);
        });
    }

    /** One with something of all that a text may wipe. */
    private static RivalMills used() {
        RivalMills x = Due.of("river 0 1;upper 21 4 2;back 13;sack 12;oven 4 5 6;oven 7 8 9;ice 22 22;hours 1 2 23;");
        x.plan(0, 5, 3);
        x.set(1, 95, 2);
        x.weed(23, 99);
        x.weed(0, 0);
        x.image();
        x.image();
        x.plan(1, 9, 1);
        return x;
    }

    private static void stays(RivalMills x) {
        int[][] mills = {{21, 4, 2, 10, 0, 23}, {20, 5, 1, 10, 2, 23}};
        int[] told = {13, 12, 2, 22, 22, 2};
        for (int what = 0; what < 6; what++) {
            Due.is("mill(0, " + what + ") stays", x.mill(0, what), mills[0][what]);
            Due.is("mill(1, " + what + ") stays", x.mill(1, what), mills[1][what]);
            Due.is("told(" + what + ") stays", x.told(what), told[what]);
        }
        for (int q = 0; q < 96; q++) {
            Due.is("river(" + q + ") stays", x.river(q), q / 4 == 22 ? 0 : 1);
            Due.is("open(0, " + q + ") stays", x.open(0, q), q / 4 == 5 ? 3 : 0);
            Due.is("open(1, " + q + ") stays", x.open(1, q), q == 95 ? 2 : q / 4 == 9 ? 1 : 0);
        }
        Due.is("oven(1, 2) stays", x.oven(1, 2), 9);
        Due.is("images stay", x.count(0), 2);
        Due.is("that of quarter 23 stays", x.weed(23, 1), -1);
    }

    private static void faultPlaces() {
        Edge.of(4, "NONE without.", () -> {
            RivalMills x = new RivalMills();
            Due.is("of a new object", x.fault(), -1);
            Due.tell(x, ";");
            Due.is("at the first byte", x.fault(), 0);
            Due.tell(x, "  ;");
            Due.is("of the latest", x.fault(), 2);
            Due.tell(x, " ".repeat(493) + "sack  1");
            Due.is("at the length of the longest text", x.fault(), 500);
            Due.tell(x, " ".repeat(499) + "x");
            Due.is("at its last byte", x.fault(), 499);
            Due.tell(x, "");
            Due.is("of a text without", x.fault(), -1);
        });
    }

    private static void answersOfTheText() {
        Edge.of(5, "IndexOutOfBoundsException: no such MILL, QUARTER (so below, ahead of others)", () -> {
            RivalMills x = new RivalMills();
            for (int mill : row(-1, 2, Integer.MIN_VALUE, Integer.MAX_VALUE)) {
                for (int what : row(0, 5, 6, -1)) {
                    Due.outOfBounds("mill(" + mill + ", " + what + ")", () -> x.mill(mill, what));
                }
            }
            Due.is("refused", x.status(0), 16);
            Due.is("not otherwise", x.status(2), 0);
        });
        Edge.of(5, "IllegalArgumentException: another what (so below)", () -> {
            RivalMills x = new RivalMills();
            for (int what : row(-1, 6, Integer.MIN_VALUE, Integer.MAX_VALUE)) {
                Due.illegal("mill(0, " + what + ")", () -> x.mill(0, what));
                Due.illegal("mill(1, " + what + ")", () -> x.mill(1, what));
            }
            Due.is("refused", x.status(2), 8);
        });
        Edge.of(6, "3 the first hour of ice, 4 its last (NONE)", () -> {
            RivalMills x = new RivalMills();
            Due.is("none at first", x.told(3), -1);
            Due.is("none at last", x.told(4), -1);
            int[][] spans = {{0, 0}, {0, 23}, {23, 23}};
            for (int[] span : spans) {
                Due.tell(x, "ice " + span[0] + " " + span[1] + ";");
                Due.is("its first", x.told(3), span[0]);
                Due.is("its last", x.told(4), span[1]);
            }
            for (int what : row(-1, 6, Integer.MIN_VALUE, Integer.MAX_VALUE)) {
                Due.illegal("told(" + what + ")", () -> x.told(what));
            }
            Due.is("refused", x.status(2), 4);
        });
        Edge.of(7, "What comes in a QUARTER.", () -> {
            RivalMills x = Due.of("river 0 9;river 23 1;");
            Due.is("the first", x.river(0), 9);
            Due.is("the last", x.river(95), 1);
            for (int q : row(-1, 96, Integer.MIN_VALUE, Integer.MAX_VALUE)) {
                Due.outOfBounds("river(" + q + ")", () -> x.river(q));
            }
            Due.is("refused", x.status(0), 4);
        });
        Edge.of(8, "NoSuchElementException: no such OVEN.", () -> {
            RivalMills x = new RivalMills();
            Due.noSuch("oven(0, 0) of none", () -> x.oven(0, 0));
            Due.is("eight", Due.tell(x, "oven 1 1 1;".repeat(7) + "oven 9 98 99;"), 8);
            Due.is("the last one's N", x.oven(7, 0), 9);
            Due.is("the last one's A", x.oven(7, 1), 98);
            Due.is("the last one's B", x.oven(7, 2), 99);
            for (int oven : row(8, -1, Integer.MIN_VALUE, Integer.MAX_VALUE)) {
                Due.noSuch("oven(" + oven + ", 0)", () -> x.oven(oven, 0));
                Due.noSuch("oven(" + oven + ", 3)", () -> x.oven(oven, 3));
            }
            for (int what : row(-1, 3, Integer.MIN_VALUE, Integer.MAX_VALUE)) {
                Due.illegal("oven(7, " + what + ")", () -> x.oven(7, what));
            }
            Due.is("no such", x.status(1), 9);
            Due.is("illegal", x.status(2), 4);
        });
    }

    private static void numbers() {
        Edge.of("FAULTS", "2 a number that is none such", () -> {
            for (Clause clause : CLAUSES) {
                for (int k = 0; k < clause.good().length; k++) {
                    int place = WIDE.length() + clause.placeOf(k);
                    good(around(clause, clause.with(k, String.valueOf(clause.least()[k]))));
                    good(around(clause, clause.with(k, String.valueOf(clause.most()[k]))));
                    good(around(clause, clause.with(k, "0000000000000" + clause.most()[k])));
                    fault(around(clause, clause.with(k, String.valueOf(clause.most()[k] + 1))), 2, place);
                    if (clause.least()[k] > 0) {
                        fault(around(clause, clause.with(k, String.valueOf(clause.least()[k] - 1))), 2, place);
                    }
                    // as many digits as stand there: none of these is taken for a number that fits
                    fault(around(clause, clause.with(k, "4294967297")), 2, place);
                    fault(around(clause, clause.with(k, "18446744073709551617")), 2, place);
                    fault(around(clause, clause.with(k, "1" + "0".repeat(300))), 2, place);
                    fault(around(clause, clause.with(k, "-1")), 1, place);
                    fault(around(clause, clause.with(k, "+1")), 1, place);
                }
            }
        });
        Edge.of("MILLS", "0 to 23, X no more than Y", () -> {
            good("hours 1 23 23;");
            good("hours 0 0 0;");
            fault("hours 0 1 0;", 2, 10);
            fault("hours 1 23 22;", 2, 11);
            good("ice 23 23;");
            good("ice 0 0;");
            fault("ice 1 0;", 2, 6);
            fault("ice 23 22;", 2, 7);
        });
    }

    private static String around(Clause clause, String text) {
        return WIDE + text + (clause.word().equals("begin") ? "" : EMPTY);
    }

    private static void endsTooEarly() {
        Edge.of("FAULTS", "1 what can't stand there (at the length, if the text ends too early)", () -> {
            for (Clause clause : CLAUSES) {
                for (int k = 0; k < clause.good().length; k++) {
                    String cut = clause.with(-1, "").substring(0, clause.placeOf(k) - 1);
                    fault(cut, 1, cut.length());
                    fault(cut + "   ", 1, cut.length() + 3);
                    fault(cut + ";", 1, cut.length());
                    fault(cut + " x", 1, cut.length() + 1);
                }
                String whole = clause.with(-1, "");
                String open = whole.substring(0, whole.length() - 1);
                fault(open, 1, open.length());
                fault(open + " ", 1, open.length() + 1);
                fault(open + " 1;", 1, open.length() + 1);
                fault(open + "x;", 1, open.length());
                fault(open + ",", 1, open.length());
                fault(whole + ";", 1, whole.length());
                fault(whole + "1", 1, whole.length());
            }
            fault(" ".repeat(495) + "back1", 1, 500);
        });
    }

    private static void lastCounts() {
        Edge.of("MILLS", "Of all but oven the last counts (hours: of one W; ice: too)", () -> {
            RivalMills x = Due.of("upper 1 2 3;lower 2 3 4;begin 9 9;back 1;sack 2;hours 0 3 4;ice 0 23;oven 1 2 3;"
                + "hours 1 5 6;oven 1 2 3;ice 7 8;hours 0 9 10;sack 11;back 12;begin 13 14;lower 15 16 1;upper 17 18 2;");
            int[][] mills = {{17, 18, 2, 13, 9, 10}, {15, 16, 1, 14, 5, 6}};
            int[] told = {12, 11, 2, 7, 8, 0};
            for (int what = 0; what < 6; what++) {
                Due.is("mill(0, " + what + ")", x.mill(0, what), mills[0][what]);
                Due.is("mill(1, " + what + ")", x.mill(1, what), mills[1][what]);
                Due.is("told(" + what + ")", x.told(what), told[what]);
            }
            for (int q = 0; q < 96; q++) {
                x.set(0, q, 1);
                x.set(1, q, 1);
                Due.is("ice at " + q, x.river(q), q / 4 == 7 || q / 4 == 8 ? 0 : 2);
                Due.is("hours of the upper one at " + q, x.open(0, q), q / 4 == 9 || q / 4 == 10 ? 1 : 0);
                Due.is("hours of the lower one at " + q, x.open(1, q), q / 4 == 5 || q / 4 == 6 ? 1 : 0);
            }
        });
    }

    private static void rivers() {
        Edge.of("MILLS", "of one H the last counts; 2 without any, else ahead of all 0", () -> {
            RivalMills x = new RivalMills();
            String[] texts = {"", "river 23 9;", "river 0 0;", "river 0 5;river 0 0;", "river 0 0;river 0 9;",
                "river 23 1;river 1 3;river 23 0;"};
            int[][] first = {{2, 2, 2}, {0, 0, 9}, {0, 0, 0}, {0, 0, 0}, {9, 9, 9}, {0, 3, 0}};
            for (int k = 0; k < texts.length; k++) {
                Due.tell(x, texts[k]);
                for (int q = 0; q < 96; q++) {
                    Due.is("river(" + q + ") of '" + texts[k] + "'", x.river(q), first[k][q < 4 ? 0 : q < 92 ? 1 : 2]);
                }
            }
        });
    }

    private static void ponds() {
        Edge.of("MILLS", "(inches in both PONDS at first, 0 to their C: not checked till the end; 10 10 without)", () -> {
            good("begin 40 40;upper 40 0 1;lower 40 0 1;");
            good("begin 40 0;upper 1 0 1;upper 40 0 1;");
            good("upper 1 0 1;begin 1 20;");
            good("lower 1 0 1;begin 20 1;");
            good("begin 0 0;upper 1 0 1;lower 1 0 1;");
            good("upper 10 0 1;lower 10 0 1;");
            fault("begin 41 40;upper 40 0 1;lower 40 0 1;", 2, 6);
            fault("begin 40 41;upper 40 0 1;lower 40 0 1;", 2, 9);
        });
    }

    private static void words() {
        Edge.of("MILLS", "WORDS: small letters, as many as stand there", () -> {
            for (Clause clause : CLAUSES) {
                String whole = clause.with(-1, "");
                String word = clause.word();
                fault("x" + whole, 1, 0);
                fault(word + "x" + whole.substring(word.length()), 1, 0);
                fault(word + whole, 1, 0);
                fault(whole.substring(1), 1, 0);
                fault(word.substring(0, word.length() - 1) + whole.substring(word.length()), 1, 0);
                fault(word.substring(0, 2) + " " + whole.substring(2), 1, 0);
                fault(Character.toUpperCase(word.charAt(0)) + whole.substring(1), 1, 0);
                fault("  " + word.substring(0, 1), 1, 2);
            }
            fault("zack 1;", 1, 0);
            fault("backz 1;", 1, 0);
            fault("backa 1;", 1, 0);
            fault("back 1;`ack 1;", 1, 7);
            fault("back 1;{ack 1;", 1, 7);
            fault("back{ 1;", 1, 4);
            fault("back` 1;", 1, 4);
        });
        Edge.of("MILLS", "Numbers: digits, as many as stand there", () -> {
            Due.is("0040", Due.of("back 0040;").told(0), 40);
            Due.is("a row of noughts", Due.of("back " + "0".repeat(400) + ";").told(0), 0);
            fault("back 4 0;", 1, 7);
            fault("back 4/;", 1, 6);
            fault("back 4:;", 1, 6);
            fault("back /4;", 1, 5);
            fault("back :4;", 1, 5);
        });
    }

    private static void blanks() {
        Edge.of("MILLS", "blanks (32) may stand ahead of all these, and at the end", () -> {
            good("");
            good(" ");
            good(" ".repeat(500));
            for (Clause clause : CLAUSES) {
                String whole = WIDE + clause.with(-1, "");
                good("   " + whole.replace(" ", "    ").replace(";", "   ;   ") + "   ");
                good(WIDE + clause.with(-1, "").replaceFirst(" ", ""));
                for (char other : new char[] {0, 9, 10, 13, 31, 33, 127, 160, 255}) {
                    fault(whole + other, 1, whole.length());
                    fault(whole.substring(0, whole.length() - 1) + other + ";", 1, whole.length() - 1);
                    fault(clause.word() + other + "1;", 1, clause.word().length());
                    fault(other + whole, 1, 0);
                }
            }
        });
    }

    private static void firstFromTheLeft() {
        Edge.of("FAULTS", "the first from the left, at its first byte", () -> {
            fault("river 24 10;x", 2, 6);
            fault("river 23 10;x", 2, 9);
            fault("river 24 x", 2, 6);
            fault("river x 24;", 1, 6);
            fault("x river 24 1;", 1, 0);
            fault("begin 30 30;sack 0;", 2, 17);
            fault("begin 30 30;sack 1;?", 1, 19);
            fault("oven 1 1 1;".repeat(8) + "oven 0 1 1;x", 3, 88);
            fault("oven 1 1 1;".repeat(7) + "oven 0 1 1;oven 1 1 1;", 2, 82);
            fault("back1;".repeat(59) + "back 41;back 1;", 2, 359);
        });
        Edge.of("FAULTS", "of one the least", () -> {
            // at the length: it ends too early, and more is in a pond than C
            fault("begin 30 30", 1, 11);
            fault("begin 30 30;back", 1, 16);
            fault("upper 9 0 1", 1, 11);
            // at a word: it is none, and a clause too many
            fault("back1;".repeat(60) + "bakk1;", 1, 360);
            fault("back1;".repeat(60) + ";", 1, 360);
        });
    }

    private static void tooMany() {
        Edge.of("FAULTS", "3 a CLAUSE or OVEN too many (at its word)", () -> {
            for (Clause clause : CLAUSES) {
                String ahead = "back1;".repeat(58) + "begin 0 0;";
                good(ahead + clause.with(-1, ""));
                fault(ahead + "sack1;" + clause.with(-1, ""), 3, ahead.length() + 6);
                fault(ahead + "sack1;   " + clause.word(), 3, ahead.length() + 9);
            }
            good("back1;".repeat(60) + "   ");
            Due.is("60 clauses", Due.of("sack1;".repeat(59) + "sack 99;").told(1), 99);
            good("oven 1 1 1;".repeat(8) + "back1;".repeat(52));
            fault("oven 1 1 1;".repeat(8) + "back1;".repeat(52) + "back1;", 3, 400);
            fault("oven 1 1 1;".repeat(8) + " oven 1 1 1;", 3, 89);
            fault("oven 1 1 1;".repeat(4) + "back 1;" + "oven 1 1 1;".repeat(5), 3, 95);
        });
        Edge.of("MILLS", "MILLS are told by a text of up to 500 bytes: { CLAUSE \";\" }, at most 60.", () -> {
            good("");
            String sixty = "back 01;".repeat(59) + "back 39;";
            String full = sixty + " ".repeat(500 - sixty.length());
            Due.is("60 clauses in 500 bytes", Due.of(full).told(0), 39);
            good("back" + "0".repeat(495) + ";");
        });
    }

    private static void tooFull() {
        Edge.of("FAULTS", "4 at the end (the length): more is in a POND at first than C", () -> {
            fault("upper 9 0 1;", 4, 12);
            fault("lower 9 0 1; ", 4, 13);
            fault("begin 21 20;", 4, 12);
            fault("begin 20 21;", 4, 12);
            good("begin 20 20;");
            fault("upper 1 0 1;begin 2 0;", 4, 22);
            fault("lower 1 0 1;begin 0 2;", 4, 22);
            fault("upper 40 0 1;begin 40 0;upper 39 0 1;", 4, 37);
            fault("begin 40 0;upper 40 0 1;begin 40 21;", 4, 36);
            String full = "begin 21 0;";
            fault(full + " ".repeat(500 - full.length()), 4, 500);
            fault("back1;".repeat(59) + "begin 21 0;", 4, 365);
        });
    }
}
