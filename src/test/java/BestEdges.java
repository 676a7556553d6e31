/** The edges of best plans, replies, plays, and what is reckoned from them: promises 16 to 27, 33 to 35, 39. */
final class BestEdges {
    private static final int[] NO_MILLS = {-1, 2, Integer.MIN_VALUE, Integer.MAX_VALUE};
    /** Nobody can grind: nothing is there, it is frozen, or no pond can be as high as its fall. */
    private static final String[] NOTHING = {
        "river 0 0;begin 0 0;", "ice 0 23;", "upper 39 40 1;lower 39 40 1;", "river 0 9;hours 0 3 4;hours 1 5 6;ice 2 7;",
    };
    /** One hour each: 5 go above, what comes down can go below. */
    private static final String ONE_HOUR = "river 0 0;upper 5 0 2;lower 5 0 1;begin 5 1;hours 0 3 3;hours 1 5 5;";

    private BestEdges() {
    }

    static void all() {
        together();
        firstPlans();
        taken();
        alone();
        replies();
        rests();
        lastTurns();
        rounds();
        lost();
        shares();
        hands();
        harmless();
        weighed();
        pays();
        soonest();
        marked();
    }

    interface OfMill {
        int answer(int mill);
    }

    static void millRefused(RivalMills x, OfMill call) {
        int ahead = x.status(0);
        for (int mill : NO_MILLS) {
            Due.outOfBounds("of mill " + mill, () -> call.answer(mill));
        }
        Due.is("out of bounds", x.status(0) - ahead, NO_MILLS.length);
    }

    private static void openAllDay(RivalMills x, int mill, int opening) {
        for (int hour = 0; hour < 24; hour++) {
            x.plan(mill, hour, opening);
        }
    }

    private static void nothingIsOpen(RivalMills x, int mill) {
        for (int q = 0; q < 96; q++) {
            Due.is("set(" + mill + ", " + q + ", 0)", x.set(mill, q, 0), 0);
        }
    }

    private static void together() {
        Edge.of(16, "TOGETHER: inches.", () -> {
            for (String nothing : NOTHING) {
                Due.is("together of '" + nothing + "'", Due.of(nothing).together(), 0);
            }
            // Above 40 and 95 times 9 (in the first quarter 9 are spilled), all of which can go; below 40 and what has come
            // above by the last quarter but one
            RivalMills most = Due.of("river 0 9;upper 40 0 4;lower 40 0 4;begin 40 40;");
            Due.is("the most of all", most.together(), 40 + 95 * 9 + 40 + 40 + 94 * 9);
            RivalMills least = Due.of("river 23 1;upper 1 0 1;lower 1 0 1;begin 0 0;hours 0 23 23;hours 1 23 23;");
            Due.is("one in each quarter above, a quarter later below", least.together(), 7);
        });
        Edge.of("TOGETHER", "over all PLANS of both (QUARTER by QUARTER) the most inches GROUND by both", () -> {
            RivalMills x = Due.of(ONE_HOUR);
            Due.is("whatever the plans are", x.together(), 10);
            openAllDay(x, 0, 3);
            openAllDay(x, 1, 3);
            Due.is("whatever they are now", x.together(), 10);
            Due.is("of other mills", Due.tell(x, "ice 0 23;"), 0);
            Due.is("no more", x.together(), 0);
            Due.is("a fault", Due.tell(x, "ice 0 24;"), -8);
            Due.is("no less", x.together(), 0);
        });
    }

    private static void firstPlans() {
        Edge.of("TOGETHER", "the first such (QUARTER by QUARTER: the upper one's opening, then the lower one's, the least)", () -> {
            for (String nothing : NOTHING) {
                RivalMills x = Due.of(nothing);
                for (int q = 0; q < 96; q++) {
                    Due.is("best of '" + nothing + "' at " + q, x.best(0, q) + x.best(1, q), 0);
                }
            }
            // one inch goes by any opening: the least does; as late as can be, so that it goes below in the last quarter
            RivalMills x = Due.of("river 0 0;upper 1 0 4;lower 1 0 4;begin 1 0;");
            Due.is("together", x.together(), 2);
            for (int q = 0; q < 96; q++) {
                Due.is("best(0, " + q + ")", x.best(0, q), q == 94 ? 1 : 0);
                Due.is("best(1, " + q + ")", x.best(1, q), q == 95 ? 1 : 0);
            }
        });
        Edge.of(17, "How far a MILL opens in a QUARTER by the first such.", () -> {
            RivalMills x = Due.of("river 0 9;upper 40 0 4;lower 40 0 4;begin 40 40;");
            Due.is("wide open at the end above", x.best(0, 95), 3);
            Due.is("wide open at the end below", x.best(1, 95), 3);
            DayEdges.millAndQuarterRefused(x, (mill, quarter) -> x.best(mill, quarter));
        });
    }

    private static void taken() {
        Edge.of(18, "That becomes the PLANS: inches.", () -> {
            for (String nothing : NOTHING) {
                RivalMills x = Due.of(nothing);
                openAllDay(x, 0, 3);
                openAllDay(x, 1, 2);
                Due.is("take of '" + nothing + "'", x.take(), 0);
                nothingIsOpen(x, 0);
                nothingIsOpen(x, 1);
            }
            RivalMills x = Due.of(ONE_HOUR);
            openAllDay(x, 0, 3);
            Due.is("take", x.take(), 10);
            Due.is("no other quarter is open", x.set(0, 0, 0) + x.set(0, 95, 0) + x.set(1, 0, 0), 0);
            Due.is("take again", x.take(), 10);
            Due.is("both grind so much", x.day(0, 0) + x.day(1, 0), 10);
        });
    }

    private static void alone() {
        Edge.of("ALONE", "of one MILL the most it GRINDS, if the other one never opens", () -> {
            // one inch below takes one off the fall of 3, of which 3 stand: while it stays there, nothing is ground above
            RivalMills x = Due.of("river 0 0;upper 3 3 1;lower 5 0 1;begin 3 1;back 0;");
            Due.is("alone above", x.alone(0), 0);
            Due.is("alone below", x.alone(1), 1);
            x.set(1, 0, 1);
            Due.is("by its reply it would", x.would(0), 3);
            Due.is("alone it does not", x.alone(0), 0);
            x.plan(0, 3, 3);
            Due.is("below it would grind more", x.would(1), 4);
            Due.is("alone it does not below", x.alone(1), 1);
        });
        Edge.of(19, "ALONE.", () -> {
            for (String nothing : NOTHING) {
                RivalMills x = Due.of(nothing);
                Due.is("alone of '" + nothing + "'", x.alone(0) + x.alone(1), 0);
            }
            RivalMills x = Due.of("river 0 9;upper 40 0 4;lower 40 0 4;begin 40 40;");
            Due.is("the most above", x.alone(0), 40 + 95 * 9);
            Due.is("the most below", x.alone(1), 40);
            millRefused(x, mill -> x.alone(mill));
        });
    }

    private static void replies() {
        Edge.of("REPLY", "the first such becomes its PLAN", () -> {
            for (String nothing : NOTHING) {
                for (int mill = 0; mill < 2; mill++) {
                    RivalMills x = Due.of(nothing);
                    openAllDay(x, 0, 3);
                    openAllDay(x, 1, 3);
                    Due.is("reply of '" + nothing + "'", x.reply(mill), 0);
                    nothingIsOpen(x, mill);
                    Due.is("the other one's stays", x.plan(1 - mill, 12, 3), 3);
                }
            }
            // two inches may go in any quarter: as late as can be, by the least opening
            RivalMills x = Due.of("river 0 0;upper 9 0 2;begin 2 0;");
            x.set(0, 0, 3);
            Due.is("it grinds as much already", x.day(0, 0), 2);
            Due.is("reply", x.reply(0), 2);
            for (int q = 0; q < 96; q++) {
                Due.is("open(0, " + q + ")", x.open(0, q), q == 95 ? 1 : 0);
            }
        });
        Edge.of(20, "REPLY: what it GRINDS then.", () -> {
            RivalMills x = Due.of(ONE_HOUR);
            Due.is("below, of one inch", x.reply(1), 1);
            Due.is("above", x.reply(0), 5);
            Due.is("below, of 5", x.reply(1), 5);
            Due.is("it grinds so much", x.day(1, 0), 5);
            millRefused(x, mill -> x.reply(mill));
            Due.is("plans stay when refused", x.day(0, 0) * 10 + x.day(1, 0), 55);
        });
        Edge.of(21, "What it would GRIND by its REPLY (PLANS stay).", () -> {
            RivalMills x = Due.of(ONE_HOUR);
            openAllDay(x, 0, 1);
            Due.is("above", x.would(0), 5);
            Due.is("below", x.would(1), 5);
            for (int hour = 0; hour < 24; hour++) {
                Due.is("plan(0, " + hour + ", 1)", x.plan(0, hour, 1), 1);
                Due.is("plan(1, " + hour + ", 0)", x.plan(1, hour, 0), 0);
            }
            millRefused(x, mill -> x.would(mill));
        });
    }

    private static void played(String text, int opening, int answer, int turns) {
        RivalMills x = Due.of(text);
        openAllDay(x, 1, opening);
        Due.is("play of '" + text + "'", x.play(), answer);
        Due.is("rounds of '" + text + "'", x.rounds(), turns);
        if (answer == 1) {
            Due.is("above it can't gain", x.would(0), x.day(0, 0));
            Due.is("below it can't gain", x.would(1), x.day(1, 0));
            Due.is("it rests yet", x.play(), 1);
            Due.is("without a turn", x.rounds(), 0);
        } else {
            Due.is("one can gain", x.would(0) > x.day(0, 0) || x.would(1) > x.day(1, 0));
        }
    }

    private static void rests() {
        Edge.of("PLAY", "till neither would GRIND more by its own reply (it RESTS)", () -> {
            for (String nothing : NOTHING) {
                played(nothing, 0, 1, 0);
                played(nothing, 3, 1, 0);
            }
            played(ONE_HOUR, 0, 1, 2);
            // behind the upper one's first turn nothing is to be gained below: nothing comes there in its hour
            played("river 0 0;upper 5 0 2;lower 5 0 1;begin 5 0;hours 0 23 23;hours 1 0 0;", 0, 1, 1);
            played("upper 7 0 1;lower 6 3 1;begin 6 4;back 1;", 3, 1, 2);
            played("upper 5 4 3;lower 6 1 2;begin 5 6;back 4;", 1, 1, 3);
            played("upper 1 0 1;lower 9 9 1;begin 0 6;back 0;", 1, 1, 23);
        });
        Edge.of("PLAY", "or PLANS are as they were before an upper one's turn (it comes ROUND)", () -> {
            played("upper 7 3 2;lower 4 3 3;begin 1 3;back 1;", 2, 2, 6);
            played("upper 8 0 1;lower 7 7 3;begin 7 3;back 0;", 3, 2, 22);
            roundByEveryQuarter();
            // the upper one's reply is its plan already: that is no round
            RivalMills x = Due.of(ONE_HOUR);
            x.reply(0);
            Due.is("play", x.play(), 1);
            Due.is("both had a turn", x.rounds(), 2);
        });
    }

    /** From plans that come round, but for one quarter: they come round one turn of both later, for that quarter alone. */
    private static void roundByEveryQuarter() {
        RivalMills x = Due.of("upper 7 3 2;lower 4 3 3;begin 1 3;back 1;");
        openAllDay(x, 1, 2);
        x.play();
        x.image();
        Due.is("round again", x.play(), 2);
        int way = x.rounds();
        for (int q = 0; q < 96; q++) {
            x.restore();
            x.image();
            x.set(0, q, (x.open(0, q) + 1) % 4);
            Due.is("but for quarter " + q + " above", x.play(), 2);
            Due.is("turns but for quarter " + q + " above", x.rounds(), way + 2);
        }
        // what is opened below in the last quarter is nothing to the upper one
        x.restore();
        x.image();
        x.set(1, 95, (x.open(1, 95) + 1) % 4);
        Due.is("but for the last quarter below", x.play(), 2);
        Due.is("turns but for the last quarter below", x.rounds(), way + 2);
    }

    private static void lastTurns() {
        Edge.of("PLAY", "or 12 turns of both are gone (RESTS, then ROUND, are asked behind the last one, too)", () -> {
            played("upper 4 4 2;lower 6 6 2;begin 4 0;back 1;", 1, 0, 24);
            played("upper 1 0 2;lower 6 2 2;begin 1 3;back 0;", 3, 1, 24);
            played("upper 3 2 3;lower 6 5 1;begin 0 0;back 5;", 2, 2, 24);
        });
        Edge.of(22, "1 it RESTS, 2 it came ROUND, 0 neither; PLANS are as they are then", () -> {
            RivalMills x = Due.of("upper 4 4 2;lower 6 6 2;begin 4 0;back 1;");
            RivalMills y = Due.of("upper 4 4 2;lower 6 6 2;begin 4 0;back 1;");
            openAllDay(x, 1, 1);
            openAllDay(y, 1, 1);
            Due.is("play", x.play(), 0);
            for (int turn = 0; turn < 24; turn++) {
                y.reply(turn % 2);
            }
            for (int q = 0; q < 96; q++) {
                Due.is("open(0, " + q + ")", x.open(0, q), y.open(0, q));
                Due.is("open(1, " + q + ")", x.open(1, q), y.open(1, q));
            }
        });
    }

    private static void rounds() {
        Edge.of(23, "(0 without, and behind mills())", () -> {
            RivalMills x = new RivalMills();
            Due.is("without", x.rounds(), 0);
            Due.tell(x, ONE_HOUR);
            x.reply(0);
            Due.is("a reply is no play", x.rounds(), 0);
            x.play();
            Due.is("both had a turn", x.rounds(), 2);
            Due.illegal("mills(1)", () -> x.mills(1));
            Due.is("behind a refused mills()", x.rounds(), 2);
            Due.is("a fault", Due.tell(x, "?"), -9);
            Due.is("all stays behind a fault", x.rounds(), 2);
            x.image();
            x.restore();
            Due.is("an image does not matter", x.rounds(), 2);
            Due.is("mills", Due.tell(x, ""), 0);
            Due.is("behind mills()", x.rounds(), 0);
            Due.tell(x, "ice 0 23;");
            x.play();
            Due.is("of a play without a turn", x.rounds(), 0);
        });
    }

    private static void lost() {
        Edge.of(24, "By how much what is TOGETHER is more than both GRIND by the PLANS.", () -> {
            for (String nothing : NOTHING) {
                Due.is("lost of '" + nothing + "'", Due.of(nothing).lost(), 0);
            }
            RivalMills x = Due.of(ONE_HOUR);
            Due.is("all, by plans that open nothing", x.lost(), 10);
            x.set(0, 12, 1);
            Due.is("two are ground", x.lost(), 8);
            x.take();
            Due.is("nothing, by the best", x.lost(), 0);
        });
    }

    private static void shares() {
        Edge.of("SHARE", "half of what it GRINDS ALONE, and of what is TOGETHER less what the other one GRINDS ALONE", () -> {
            for (String nothing : NOTHING) {
                RivalMills x = Due.of(nothing);
                Due.is("share of '" + nothing + "'", x.share(0) * 10 + x.share(1), 0);
            }
            // alone 5 and 1, together 10
            RivalMills x = Due.of(ONE_HOUR);
            Due.is("above", x.share(0), 5 + 10 - 1);
            Due.is("below", x.share(1), 1 + 10 - 5);
            Due.is("both have all, twice", x.share(0) + x.share(1), 2 * x.together());
        });
        Edge.of(25, "SHARE, twice.", () -> {
            // alone 1 and 0, together 2: a half is no inch
            RivalMills x = Due.of("river 0 0;upper 1 0 4;lower 1 0 4;begin 1 0;");
            Due.is("above", x.share(0), 3);
            Due.is("below", x.share(1), 1);
            millRefused(x, mill -> x.share(mill));
        });
    }

    private static void hands() {
        Edge.of(26, "0 the upper place, 1 the lower one, 2 both alike", () -> {
            for (String nothing : NOTHING) {
                Due.is("hand of '" + nothing + "'", Due.of(nothing).hand(), 2);
            }
            String ponds = "river 0 0;upper 9 0 1;lower 9 0 1;begin ";
            Due.is("one more above", Due.of(ponds + "5 4;").hand(), 0);
            Due.is("one more below", Due.of(ponds + "4 5;").hand(), 1);
            Due.is("as many", Due.of(ponds + "5 5;").hand(), 2);
        });
    }

    private static void harmless() {
        Edge.of("HARMLESS", "the greatest M (0 to 40) by which the upper one GRINDS as much", () -> {
            // of 10 above a fall of 5 each inch off harms: see PromiseTest
            for (int mark : new int[] {0, 1, 20, 39, 40}) {
                Due.is("mark " + mark, Due.of("river 0 0;upper 20 5 1;back " + mark + ";").harmless(), mark);
            }
            // of 20 in one hour 6 may be taken off
            for (int mark : new int[] {0, 33, 34, 35, 40}) {
                String text = "river 0 0;begin 20 0;hours 0 3 3;back " + mark + ";";
                Due.is("mark " + mark + " and 6", Due.of(text).harmless(), Math.min(40, mark + 6));
                // one inch is all that it can grind, and one off takes it
                String inch = "river 0 0;upper 9 1 1;begin 1 0;back " + mark + ";";
                Due.is("mark " + mark + " of one inch", Due.of(inch).harmless(), mark);
            }
        });
        Edge.of("HARMLESS", "(over all its own PLANS; nothing comes into the lower one from it)", () -> {
            String text = "river 0 0;upper 20 5 1;lower 40 0 1;begin 10 40;back 3;";
            RivalMills x = Due.of(text);
            Due.is("by plans that open nothing", x.harmless(), 3);
            openAllDay(x, 0, 3);
            openAllDay(x, 1, 3);
            Due.is("by others", x.harmless(), 3);
        });
        Edge.of("HARMLESS", "if the lower POND stood always at M, as if it stood at 0", () -> {
            // 9 come on 31 in the first quarter, and the pond is as full as its fall is high
            for (int mark : new int[] {0, 7}) {
                String river = "river 0 9;river 1 0;upper 40 40 1;lower 40 0 1;begin 31 40;back " + mark + ";";
                Due.is("what comes stands then", Due.of(river).harmless(), mark);
                String full = "river 0 9;upper 40 30 1;lower 1 0 4;begin 40 1;back " + mark + ";";
                // 3 go of 40 and 9 come: it is full again in each quarter
                Due.is("a full pond may have 10 off", Due.of(full).harmless(), mark + 10);
            }
            // 1, 2, 3, 4 stand in the hour in which it comes and it may open: in its last quarter alone it can grind
            String late = "river 0 0;river 3 1;upper 9 4 1;begin 0 0;hours 0 3 3;back 2;";
            Due.is("from the first quarter of an hour on", Due.of(late).harmless(), 2);
        });
        Edge.of(27, "HARMLESS; NONE: not even 0 (never)", () -> {
            for (String nothing : NOTHING) {
                Due.is("nothing to harm in '" + nothing + "'", Due.of(nothing + "back 0;").harmless(), 40);
            }
            Due.is("0 at least", Due.of("river 0 0;upper 20 5 1;back 0;").harmless(), 0);
        });
    }

    private static void weighed() {
        Edge.of(33, "WEIGHED (A, B 0 to 9)", () -> {
            RivalMills x = Due.of(ONE_HOUR);
            Due.is("of no weight", x.weighed(0, 0, 0), 0);
            Due.is("the first opens nothing above", x.weighed(0, 0, 1), 0);
            Due.is("nor below", x.weighed(0, 0, 2), 0);
            Due.is("9 and 9", x.weighed(9, 9, 0), 90);
            Due.is("9 and 0", x.weighed(9, 0, 0) * 100 + x.weighed(9, 0, 1) * 10 + x.weighed(9, 0, 2), 4550);
            Due.is("0 and 9", x.weighed(0, 9, 0), 45);
            Due.is("0 and 9 below", x.weighed(0, 9, 2), 5);
            for (int none : new int[] {-1, 10, Integer.MIN_VALUE, Integer.MAX_VALUE}) {
                Due.illegal("weighed(" + none + ", 0, 0)", () -> x.weighed(none, 0, 0));
                Due.illegal("weighed(0, " + none + ", 0)", () -> x.weighed(0, none, 0));
            }
            for (int what : new int[] {-1, 3, Integer.MIN_VALUE, Integer.MAX_VALUE}) {
                Due.illegal("weighed(0, 0, " + what + ")", () -> x.weighed(0, 0, what));
            }
            Due.is("illegal", x.status(2), 12);
        });
        Edge.of("WEIGHED", "over all PLANS of both the most of A times what the upper one GRINDS, and B times what the lower one"
            + " does; the first such", () -> {
                for (String nothing : NOTHING) {
                    Due.is("weighed of '" + nothing + "'", Due.of(nothing).weighed(9, 9, 0), 0);
                }
                RivalMills x = Due.of("river 0 9;upper 40 0 4;lower 40 0 4;begin 40 40;");
                Due.is("the most of all", x.weighed(9, 9, 0), 9 * x.together());
                Due.is("together weighs both by one", x.weighed(1, 1, 0), x.together());
                int[] weights = {0, 1, 5, 9};
                for (int a : weights) {
                    for (int b : weights) {
                        Due.tell(x, ONE_HOUR);
                        Due.is("weighed(" + a + ", " + b + ", 0)", x.weighed(a, b, 0), 5 * a + 5 * b);
                        Due.tell(x, "river 0 0;upper 9 0 1;lower 9 0 1;begin 1 3;hours 0 23 23;hours 1 0 22;");
                        Due.is("of other mills", x.weighed(a, b, 0), a + 3 * b);
                    }
                }
                Due.tell(x, "ice 0 23;");
                Due.is("of mills that are frozen", x.weighed(9, 9, 0), 0);
                Due.tell(x, ONE_HOUR);
                Due.is("of mills that are not", x.weighed(9, 9, 0), 90);
                Due.tell(x, "ice 0 23;");
                Due.is("by nothing then", x.weighed(0, 0, 0), 0);
                weightsInTurn();
            });
    }

    /** Each pair of weights behind each other one: what was found for one is not the other one's. */
    private static void weightsInTurn() {
        for (int ahead = 0; ahead < 100; ahead++) {
            RivalMills x = Due.of("river 0 0;upper 9 0 1;lower 9 0 1;begin 1 3;hours 0 23 23;hours 1 0 22;");
            for (int now = 0; now < 100; now++) {
                int a = now / 10;
                int b = now % 10;
                x.weighed(ahead / 10, ahead % 10, 0);
                Due.is("weighed(" + a + ", " + b + ", 0) behind " + ahead, x.weighed(a, b, 0), a + 3 * b);
                Due.is("weighed(" + a + ", " + b + ", 1) behind " + ahead, x.weighed(a, b, 1), a > 0 ? 1 : 0);
                Due.is("weighed(" + a + ", " + b + ", 2) behind " + ahead, x.weighed(a, b, 2), b > 0 ? 3 : 0);
            }
        }
    }

    private static void pays() {
        Edge.of("PAYS", "(below 0: it gets)", () -> {
            RivalMills x = Due.of(ONE_HOUR);
            // each grinds 5; shares 7 and 3
            Due.is("above it gets", x.pays(0), -4);
            Due.is("below it pays", x.pays(1), 4);
            // what goes above comes down too late: 1 is ground above and 3 are below, alone as together
            RivalMills apart = Due.of("river 0 0;upper 9 0 1;lower 9 0 1;begin 1 3;hours 0 23 23;hours 1 0 22;");
            Due.is("together", apart.together(), 4);
            Due.is("each keeps what it grinds", apart.pays(0) * 10 + apart.pays(1), 0);
            RivalMills down = Due.of("river 0 0;upper 9 0 1;lower 9 0 1;begin 1 3;");
            // together 1 and 4; alone 1 and 3: shares 3 and 7, twice
            Due.is("above it gets", down.pays(0), -1);
            Due.is("below it pays", down.pays(1), 1);
        });
        Edge.of(34, "PAYS.", () -> {
            for (String nothing : NOTHING) {
                RivalMills x = Due.of(nothing);
                Due.is("pays of '" + nothing + "'", x.pays(0) * 10 + x.pays(1), 0);
            }
            RivalMills x = Due.of(ONE_HOUR);
            openAllDay(x, 0, 3);
            Due.is("not by the plans as they are", x.pays(0), -4);
            millRefused(x, mill -> x.pays(mill));
        });
    }

    private static void soonest() {
        Edge.of("SOONEST", "the first QUARTER by whose end it can have GROUND so many inches, the other one by its PLAN", () -> {
            RivalMills x = Due.of("river 0 1;upper 3 0 1;lower 3 0 1;begin 0 0;");
            Due.is("in the first quarter", x.soonest(0, 1), 0);
            Due.is("in the last", x.soonest(0, 96), 95);
            Due.is("not in the day", x.soonest(0, 97), -1);
            Due.is("below, while nothing comes", x.soonest(1, 1), -1);
            openAllDay(x, 0, 1);
            Due.is("below a quarter later", x.soonest(1, 1), 1);
            Due.is("below in the last", x.soonest(1, 95), 95);
            Due.is("below not in the day", x.soonest(1, 96), -1);
            Due.is("at once by a wide sluice", Due.of("river 0 0;upper 40 0 4;begin 12 0;").soonest(0, 12), 0);
            Due.is("of a pond that has less", Due.of("river 0 0;upper 40 0 4;begin 11 0;").soonest(0, 12), -1);
            Due.is("one more needs a quarter more", Due.of("river 0 0;upper 40 0 4;begin 13 0;").soonest(0, 13), 1);
        });
        Edge.of(35, "SOONEST (inches 1 to 9,999); NONE: not in the DAY", () -> {
            RivalMills x = new RivalMills();
            Due.is("of so many", x.soonest(0, 9999), -1);
            Due.is("of one", x.soonest(0, 1), 0);
            for (int inches : new int[] {0, -1, 10000, Integer.MIN_VALUE, Integer.MAX_VALUE}) {
                Due.illegal("soonest(0, " + inches + ")", () -> x.soonest(0, inches));
                Due.outOfBounds("soonest(2, " + inches + ")", () -> x.soonest(2, inches));
            }
            Due.is("illegal", x.status(2), 5);
            millRefused(x, mill -> x.soonest(mill, 1));
        });
    }

    private static void marked() {
        String low = "river 0 0;upper 5 5 2;lower 5 5 1;begin 5 5;hours 0 3 3;hours 1 5 5;back ";
        Edge.of("MARKED", "how much of what is TOGETHER is lost if M is another one (to 40)", () -> {
            for (int told = 0; told <= 40; told += 5) {
                RivalMills x = Due.of(low + told + ";");
                for (int other : new int[] {0, 4, 5, 6, 39, 40}) {
                    // 5 stand below: 5 are ground above if the mark is there, none if it is lower
                    int now = told >= 5 ? 5 : 0;
                    int then = other >= 5 ? 5 : 0;
                    Due.is(other + " for " + told, x.marked(other), now - then);
                }
                Due.is("the mark stays", x.told(0), told);
                // whatever was sought ahead of it
                x.reply(1);
                Due.is("behind a reply", x.marked(5), (told >= 5 ? 5 : 0) - 5);
                x.weighed(9, 0, 0);
                Due.is("behind other weights", x.marked(4), told >= 5 ? 5 : 0);
            }
        });
        Edge.of(39, "MARKED (below 0: that is more)", () -> {
            RivalMills x = Due.of(low + "0;");
            Due.is("that is more", x.marked(40), -5);
            Due.is("its own", x.marked(0), 0);
            for (int m : new int[] {-1, 41, Integer.MIN_VALUE, Integer.MAX_VALUE}) {
                Due.illegal("marked(" + m + ")", () -> x.marked(m));
            }
            Due.is("illegal", x.status(2), 4);
            Due.is("no more", Due.of("ice 0 23;").marked(0), 0);
        });
    }
}
