/** The edges of plans and of the day gone through by them: promises 9 to 15, DAY. */
final class DayEdges {
    private static final int[] NO_MILLS = {-1, 2, Integer.MIN_VALUE, Integer.MAX_VALUE};
    private static final int[] NO_QUARTERS = {-1, 96, Integer.MIN_VALUE, Integer.MAX_VALUE};
    private static final int[] NO_HOURS = {-1, 24, Integer.MIN_VALUE, Integer.MAX_VALUE};
    private static final int[] NO_OPENINGS = {-1, 4, Integer.MIN_VALUE, Integer.MAX_VALUE};

    private DayEdges() {
    }

    static void all() {
        quarters();
        mayNot();
        hoursPlanned();
        quartersSet();
        asked();
        comes();
        spills();
        letsThrough();
        grinds();
        backs();
        lowerLikewise();
        addsUp();
        answers();
    }

    private static void opens(RivalMills x, int mill, int from, int to, int opening) {
        for (int q = 0; q < 96; q++) {
            Due.is("open(" + mill + ", " + q + ")", x.open(mill, q), q >= from && q <= to ? opening : 0);
        }
    }

    private static void quarters() {
        Edge.of("DAY", "A DAY has QUARTERS 0 to 95 (four an hour).", () -> {
            for (int mill = 0; mill < 2; mill++) {
                RivalMills x = new RivalMills();
                x.plan(mill, 0, 3);
                opens(x, mill, 0, 3, 3);
                opens(x, 1 - mill, 0, 95, 0);
                x.plan(mill, 0, 0);
                x.plan(mill, 23, 1);
                opens(x, mill, 92, 95, 1);
                opens(x, 1 - mill, 0, 95, 0);
            }
        });
    }

    private static void mayNot() {
        Edge.of("DAY", "0 to 3 (0 at first); if it may not open then (hours, ice), it is 0", () -> {
            String[] texts = {"hours 0 5 5;", "hours 0 0 0;", "hours 0 23 23;", "hours 0 0 23;"};
            int[][] spans = {{20, 23}, {0, 3}, {92, 95}, {0, 95}};
            for (int k = 0; k < texts.length; k++) {
                RivalMills x = wideOpen(texts[k]);
                opens(x, 0, spans[k][0], spans[k][1], 3);
                opens(x, 1, 0, 95, 3);
            }
            RivalMills lower = wideOpen("hours 1 23 23;");
            opens(lower, 0, 0, 95, 3);
            opens(lower, 1, 92, 95, 3);
            RivalMills frozen = wideOpen("ice 0 23;");
            opens(frozen, 0, 0, 95, 0);
            opens(frozen, 1, 0, 95, 0);
            Due.is("nothing is let through", frozen.day(0, 1) + frozen.day(1, 1), 0);
            RivalMills morning = wideOpen("ice 0 22;hours 1 0 22;");
            opens(morning, 0, 92, 95, 3);
            opens(morning, 1, 0, 95, 0);
            RivalMills evening = wideOpen("ice 1 23;hours 1 1 23;");
            opens(evening, 0, 0, 3, 3);
            opens(evening, 1, 0, 95, 0);
        });
        Edge.of("MILLS", "\"ice\" X Y (in hours X to Y nothing comes, nothing is let through; once)", () -> {
            RivalMills x = wideOpen("river 0 9;upper 40 0 1;lower 40 0 1;begin 40 40;ice 5 5;");
            for (int q : new int[] {19, 20, 23, 24}) {
                boolean ice = q == 20 || q == 23;
                Due.is("river(" + q + ")", x.river(q), ice ? 0 : 9);
                Due.is("open(0, " + q + ")", x.open(0, q), ice ? 0 : 3);
                Due.is("open(1, " + q + ")", x.open(1, q), ice ? 0 : 3);
            }
            for (int q = 20; q < 24; q++) {
                Due.is("the upper pond stands at " + q, x.level(0, q), x.level(0, 19));
                // what was let through ahead of the ice comes down yet
                Due.is("the lower pond stands at " + q, x.level(1, q), x.level(1, 19) + 3);
            }
            Due.is("what came", x.water(0), 92 * 9);
        });
    }

    private static RivalMills wideOpen(String text) {
        RivalMills x = Due.of(text);
        for (int hour = 0; hour < 24; hour++) {
            x.plan(0, hour, 3);
            x.plan(1, hour, 3);
        }
        return x;
    }

    private static void hoursPlanned() {
        Edge.of(9, "opening (0 to 3): that of the first of these ahead", () -> {
            RivalMills x = new RivalMills();
            int ahead = 0;
            for (int opening : new int[] {0, 3, 3, 0, 1, 2, 0}) {
                Due.is("plan(1, 23, " + opening + ")", x.plan(1, 23, opening), ahead);
                ahead = opening;
            }
            x.set(1, 93, 1);
            x.set(1, 94, 2);
            x.set(1, 95, 3);
            Due.is("not that of a later one", x.plan(1, 23, 0), 0);
            x.set(1, 92, 3);
            Due.is("that of the first one", x.plan(1, 23, 0), 3);
            Due.is("no other mill's", x.plan(0, 23, 0), 0);
            Due.is("no other hour's", x.plan(1, 22, 0), 0);
        });
        Edge.of(9, "A MILL's PLAN for the QUARTERS of an hour (0 to 23)", () -> {
            RivalMills x = new RivalMills();
            for (int mill : NO_MILLS) {
                Due.outOfBounds("plan(" + mill + ", 0, 1)", () -> x.plan(mill, 0, 1));
                Due.outOfBounds("plan(" + mill + ", 24, 4)", () -> x.plan(mill, 24, 4));
            }
            for (int hour : NO_HOURS) {
                Due.illegal("plan(0, " + hour + ", 1)", () -> x.plan(0, hour, 1));
                Due.illegal("plan(1, " + hour + ", 1)", () -> x.plan(1, hour, 1));
            }
            for (int opening : NO_OPENINGS) {
                Due.illegal("plan(0, 0, " + opening + ")", () -> x.plan(0, 0, opening));
                Due.illegal("plan(1, 23, " + opening + ")", () -> x.plan(1, 23, opening));
            }
            Due.is("out of bounds", x.status(0), 8);
            Due.is("illegal", x.status(2), 16);
            opens(x, 0, 0, 95, 0);
            opens(x, 1, 0, 95, 0);
        });
    }

    private static void quartersSet() {
        Edge.of(10, "For one QUARTER.", () -> {
            RivalMills x = new RivalMills();
            for (int q : new int[] {0, 95}) {
                Due.is("set", x.set(0, q, 3), 0);
                opens(x, 0, q, q, 3);
                opens(x, 1, 0, 95, 0);
                Due.is("set again", x.set(0, q, 0), 3);
                Due.is("and once more", x.set(0, q, 0), 0);
            }
            for (int mill : NO_MILLS) {
                Due.outOfBounds("set(" + mill + ", 0, 1)", () -> x.set(mill, 0, 1));
                Due.outOfBounds("set(" + mill + ", 96, 4)", () -> x.set(mill, 96, 4));
            }
            for (int q : NO_QUARTERS) {
                Due.outOfBounds("set(0, " + q + ", 1)", () -> x.set(0, q, 1));
                Due.outOfBounds("set(1, " + q + ", 4)", () -> x.set(1, q, 4));
            }
            for (int opening : NO_OPENINGS) {
                Due.illegal("set(0, 0, " + opening + ")", () -> x.set(0, 0, opening));
                Due.illegal("set(1, 95, " + opening + ")", () -> x.set(1, 95, opening));
            }
            Due.is("out of bounds", x.status(0), 16);
            Due.is("illegal", x.status(2), 8);
            opens(x, 0, 0, 95, 0);
            opens(x, 1, 0, 95, 0);
        });
    }

    private static void asked() {
        Edge.of(11, "(as it may be)", () -> {
            RivalMills x = Due.of("hours 0 1 1;");
            for (int q : new int[] {3, 4, 7, 8}) {
                x.set(0, q, 2);
                Due.is("open(0, " + q + ")", x.open(0, q), q == 4 || q == 7 ? 2 : 0);
            }
            millAndQuarterRefused(x, (mill, quarter) -> x.open(mill, quarter));
        });
        Edge.of(12, "Inches in a POND behind a QUARTER.", () -> {
            RivalMills x = Due.of("river 0 0;upper 40 0 4;lower 40 0 4;begin 40 40;");
            Due.is("full above", x.level(0, 95), 40);
            Due.is("full below", x.level(1, 95), 40);
            x.plan(0, 0, 3);
            x.plan(1, 0, 3);
            // 12 go in each quarter, till 4 go in the last; below they come a quarter later
            int[] upper = {28, 16, 4, 0, 0};
            int[] lower = {28, 28, 28, 28, 32};
            for (int q = 0; q < upper.length; q++) {
                Due.is("level(0, " + q + ")", x.level(0, q), upper[q]);
                Due.is("level(1, " + q + ")", x.level(1, q), lower[q]);
            }
            Due.is("empty", x.level(0, 95), 0);
            millAndQuarterRefused(x, (mill, quarter) -> x.level(mill, quarter));
        });
        Edge.of(15, "BACK in a QUARTER.", () -> {
            RivalMills x = Due.of("river 0 0;lower 40 0 1;begin 0 40;back 0;");
            x.set(1, 95, 3);
            Due.is("the first", x.back(0), 40);
            Due.is("the last, ahead of what goes", x.back(95), 40);
            for (int q : NO_QUARTERS) {
                Due.outOfBounds("back(" + q + ")", () -> x.back(q));
            }
            Due.is("out of bounds", x.status(0), 4);
        });
    }

    interface OfQuarter {
        int answer(int mill, int quarter);
    }

    static void millAndQuarterRefused(RivalMills x, OfQuarter call) {
        int ahead = x.status(0);
        for (int mill : NO_MILLS) {
            Due.outOfBounds("(" + mill + ", 0)", () -> call.answer(mill, 0));
            Due.outOfBounds("(" + mill + ", 96)", () -> call.answer(mill, 96));
        }
        for (int q : NO_QUARTERS) {
            Due.outOfBounds("(0, " + q + ")", () -> call.answer(0, q));
            Due.outOfBounds("(1, " + q + ")", () -> call.answer(1, q));
        }
        Due.is("out of bounds", x.status(0) - ahead, 16);
        Due.is("illegal", x.status(2), 0);
    }

    private static void comes() {
        Edge.of("DAY", "(a) the river comes into the upper POND; what the upper one let through in the QUARTER ahead into the"
            + " lower one", () -> {
                RivalMills x = Due.of("river 0 9;river 1 0;upper 40 0 4;lower 40 0 4;begin 0 0;");
                x.set(0, 0, 2);
                x.set(0, 95, 3);
                Due.is("in the first quarter 9 come, 8 go", x.level(0, 0), 1);
                Due.is("below nothing has come", x.level(1, 0), 0);
                Due.is("it comes a quarter later", x.level(1, 1), 8);
                Due.is("of the last quarter it is on the way", x.water(5), 12);
                Due.is("not below", x.level(1, 95), 8);
            });
    }

    private static void spills() {
        Edge.of("DAY", "(b) What a POND has above C is SPILLED.", () -> {
            for (int begin = 0; begin <= 5; begin++) {
                RivalMills x = Due.of("river 0 1;river 1 0;upper 5 0 1;begin " + begin + " 0;");
                // 4 come: no more than C stays
                Due.is("of " + begin + " at first", x.day(0, 3), Math.max(0, begin + 4 - 5));
                Due.is("what stands", x.level(0, 95), Math.min(5, begin + 4));
            }
            for (int begin = 0; begin <= 5; begin++) {
                RivalMills x = Due.of("river 0 0;upper 5 0 1;lower 5 0 1;begin 3 " + begin + ";");
                x.set(0, 0, 3);
                Due.is("below of " + begin, x.day(1, 3), Math.max(0, begin + 3 - 5));
                Due.is("what stands below", x.level(1, 95), Math.min(5, begin + 3));
                Due.is("not above", x.day(0, 3), 0);
            }
            RivalMills x = Due.of("river 0 9;upper 1 0 1;begin 1 0;");
            Due.is("all of it", x.day(0, 3), 96 * 9);
            // it is spilled ahead of what goes, even if the sluice is wide open
            RivalMills open = wideOpen("river 0 2;upper 1 0 1;begin 0 0;");
            Due.is("one goes, one is spilled", open.day(0, 1) * 1000 + open.day(0, 3), 96096);
        });
    }

    private static void letsThrough() {
        Edge.of("DAY", "the upper MILL lets through opening times G (what it has at most)", () -> {
            for (int gate = 1; gate <= 4; gate++) {
                for (int opening = 0; opening <= 3; opening++) {
                    for (int has = 0; has <= 13; has++) {
                        RivalMills x = Due.of("river 0 0;upper 13 0 " + gate + ";lower 13 0 " + gate + ";begin " + has + " "
                            + has + ";");
                        x.set(0, 95, opening);
                        x.set(1, 95, opening);
                        int goes = Math.min(has, opening * gate);
                        Due.is("above of " + has + " by " + opening + " times " + gate, x.day(0, 1), goes);
                        Due.is("below of " + has + " by " + opening + " times " + gate, x.day(1, 1), goes);
                        Due.is("what stays", x.level(0, 95) + x.level(1, 95), 2 * (has - goes));
                        Due.is("quarters", x.day(0, 5) + x.day(1, 5), goes > 0 ? 2 : 0);
                    }
                }
            }
        });
    }

    private static void grinds() {
        Edge.of("DAY", "is F or more; else that is WASTED", () -> {
            for (int fall : new int[] {0, 1, 7, 39, 40}) {
                for (int has = Math.max(0, fall - 1); has <= Math.min(40, fall + 1); has++) {
                    RivalMills x = Due.of("river 0 0;upper 40 " + fall + " 4;lower 40 " + fall + " 4;begin " + has + " " + has
                        + ";");
                    x.set(0, 0, 3);
                    x.set(1, 0, 3);
                    int goes = Math.min(12, has);
                    for (int mill = 0; mill < 2; mill++) {
                        Due.is("ground of " + has + " by a fall of " + fall, x.day(mill, 0), has >= fall ? goes : 0);
                        Due.is("wasted of " + has + " by a fall of " + fall, x.day(mill, 2), has >= fall ? 0 : goes);
                    }
                }
            }
            RivalMills never = wideOpen("river 0 9;upper 39 40 1;lower 39 40 1;begin 39 39;");
            Due.is("a full pond below its fall", never.day(0, 0) + never.day(1, 0), 0);
            Due.is("can't be mended", never.together(), 0);
        });
    }

    private static void backs() {
        Edge.of("DAY", "BACK (what stands in the lower one above M, if it does)", () -> {
            for (int mark : new int[] {0, 1, 6, 7, 8, 39, 40}) {
                RivalMills x = Due.of("river 0 0;lower 40 0 1;begin 0 7;back " + mark + ";");
                Due.is("of 7 above " + mark, x.back(0), Math.max(0, 7 - mark));
            }
            Due.is("without a mark", Due.of("river 0 0;lower 40 0 1;begin 0 40;").back(0), 0);
        });
        Edge.of("DAY", "if what stands in its POND, less BACK", () -> {
            for (int below = 3; below <= 9; below++) {
                RivalMills x = Due.of("river 0 0;upper 9 5 1;lower 9 0 1;begin 8 " + below + ";back 4;");
                x.set(0, 0, 1);
                // 8 stand: 3 may be taken off
                Due.is("ground with " + below + " below", x.day(0, 0), below <= 7 ? 1 : 0);
                Due.is("wasted with " + below + " below", x.day(0, 2), below <= 7 ? 0 : 1);
            }
            for (int has = 1; has <= 4; has++) {
                RivalMills x = Due.of("river 0 0;upper 9 0 1;lower 9 0 1;begin " + has + " 3;back 0;");
                x.set(0, 0, 1);
                Due.is("without a fall, of " + has + " less 3", x.day(0, 0), has >= 3 ? 1 : 0);
            }
        });
        Edge.of("DAY", "(c) By what stands then", () -> {
            // below 9 stand ahead of what goes in the same quarter: 5 are taken off, though all 9 go then
            RivalMills x = Due.of("river 0 0;upper 9 5 1;lower 9 0 3;begin 9 9;back 4;");
            x.set(0, 0, 1);
            x.set(1, 0, 3);
            Due.is("back", x.back(0), 5);
            Due.is("wasted", x.day(0, 2), 1);
            // what comes in the quarter stands then, and what it has above C does not
            RivalMills full = Due.of("river 0 1;upper 9 9 1;begin 8 0;");
            full.set(0, 0, 1);
            Due.is("with what comes", full.day(0, 0), 1);
            RivalMills spilled = Due.of("river 0 9;upper 9 10 1;begin 9 0;");
            spilled.set(0, 0, 1);
            Due.is("without what is spilled", spilled.day(0, 2), 1);
        });
    }

    private static void lowerLikewise() {
        Edge.of("DAY", "(d) The lower MILL likewise, without BACK (what it lets through is gone)", () -> {
            RivalMills x = Due.of("river 0 0;upper 9 0 1;lower 9 9 3;begin 0 9;back 0;");
            x.set(1, 0, 3);
            Due.is("back is nothing to it", x.day(1, 0), 9);
            Due.is("it is gone", x.water(3), 9);
            Due.is("nothing is left", x.water(4) + x.water(5), 0);
        });
    }

    private static void addsUp() {
        Edge.of("DAY", "WATER adds up: what came and what there was is SPILLED, gone through the lower MILL, in both PONDS, or"
            + " on the way.", () -> {
                String[] texts = {"", "ice 0 23;", "river 0 0;begin 0 0;", "river 0 9;upper 1 0 4;lower 1 0 4;begin 1 1;",
                    "river 0 9;upper 40 40 4;lower 40 40 1;begin 40 40;", "river 23 9;hours 0 23 23;hours 1 0 0;back 0;"};
                for (String text : texts) {
                    for (RivalMills x : new RivalMills[] {Due.of(text), wideOpen(text)}) {
                        int all = x.water(2) + x.water(3) + x.water(4) + x.water(5);
                        Due.is("of '" + text + "'", x.water(0) + x.water(1), all);
                        Due.is("in both ponds", x.water(4), x.level(0, 95) + x.level(1, 95));
                        Due.is("spilled", x.water(2), x.day(0, 3) + x.day(1, 3));
                        Due.is("gone", x.water(3), x.day(1, 1));
                    }
                }
            });
    }

    private static void answers() {
        Edge.of(13, "4 SACKS (whole), 5 QUARTERS in which it GRINDS", () -> {
            for (int sack : new int[] {1, 11, 12, 13, 24, 99}) {
                RivalMills x = Due.of("river 0 0;upper 40 0 1;begin 12 0;sack " + sack + ";");
                x.plan(0, 3, 3);
                Due.is("sacks of 12 inches at " + sack, x.day(0, 4), sack == 1 ? 12 : sack <= 12 ? 1 : 0);
                Due.is("quarters", x.day(0, 5), 4);
                Due.is("none below", x.day(1, 4) + x.day(1, 5), 0);
            }
            RivalMills wasted = Due.of("river 0 0;upper 40 40 1;begin 12 0;");
            wasted.plan(0, 3, 3);
            Due.is("wasting is no grinding", wasted.day(0, 5), 0);
            RivalMills all = wideOpen("river 0 3;upper 40 0 1;lower 40 0 1;begin 3 3;");
            Due.is("all day above", all.day(0, 5), 96);
            Due.is("all day below", all.day(1, 5), 96);
            RivalMills x = new RivalMills();
            for (int mill : NO_MILLS) {
                Due.outOfBounds("day(" + mill + ", 0)", () -> x.day(mill, 0));
                Due.outOfBounds("day(" + mill + ", 6)", () -> x.day(mill, 6));
            }
            for (int what : new int[] {-1, 6, Integer.MIN_VALUE, Integer.MAX_VALUE}) {
                Due.illegal("day(0, " + what + ")", () -> x.day(0, what));
                Due.illegal("day(1, " + what + ")", () -> x.day(1, what));
            }
            Due.is("out of bounds", x.status(0), 8);
            Due.is("illegal", x.status(2), 8);
        });
        Edge.of(14, "0 what came, 1 what there was at first", () -> {
            for (int[] begin : new int[][] {{0, 0}, {40, 0}, {0, 40}, {40, 40}, {1, 2}}) {
                RivalMills x = Due.of("river 23 9;upper 40 0 1;lower 40 0 1;begin " + begin[0] + " " + begin[1] + ";");
                Due.is("what there was", x.water(1), begin[0] + begin[1]);
                Due.is("what came", x.water(0), 36);
            }
        });
        Edge.of(14, "4 in both PONDS at the end, 5 on the way", () -> {
            RivalMills x = Due.of("river 0 0;upper 40 0 4;lower 40 0 4;begin 40 40;");
            x.set(0, 94, 1);
            Due.is("it has come down", x.water(5), 0);
            Due.is("and is spilled below", x.water(4), 76);
            x.set(0, 94, 0);
            x.set(0, 95, 1);
            Due.is("it is on the way", x.water(5), 4);
            Due.is("no more in a pond", x.water(4), 76);
            Due.is("nothing is spilled", x.water(2), 0);
            for (int what : new int[] {-1, 6, Integer.MIN_VALUE, Integer.MAX_VALUE}) {
                Due.illegal("water(" + what + ")", () -> x.water(what));
            }
            Due.is("illegal", x.status(2), 4);
        });
    }
}
