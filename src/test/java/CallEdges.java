/** The edges of ovens, weeds, eels, of what more is asked of plans, of images and counts: promises 28 to 32, 36 to 44. */
final class CallEdges {
    private static final int LEAST = Integer.MIN_VALUE;
    private static final int MOST = Integer.MAX_VALUE;

    private CallEdges() {
    }

    static void all() {
        carting();
        weedsTold();
        explained();
        sure();
        eels();
        seeds();
        blame();
        later();
        dry();
        half();
        images();
        restored();
        counts();
        manyCalls();
    }

    private static void carting() {
        Edge.of("CARTING", "a MILL sells no more SACKS than told", () -> {
            RivalMills x = Due.of("oven 9 1 2;".repeat(8));
            Due.is("all of the upper one", x.cart(72, 0, 0), 72);
            Due.is("its bits", x.cart(72, 0, 1), 0);
            Due.is("one sack less", x.cart(71, 0, 0), -1);
            Due.is("one oven of the lower one", x.cart(71, 9, 0), 63 + 18);
            Due.is("the first", x.cart(71, 9, 1), 1);
            Due.is("one sack less below", x.cart(71, 8, 0), -1);
            Due.is("all of the lower one", x.cart(0, 72, 0), 144);
            Due.is("all bits", x.cart(0, 72, 1), 255);
            Due.is("one oven of the upper one", x.cart(9, 71, 1), 127);
            Due.is("just enough", x.cart(36, 36, 0), 108);
            Due.is("enough, but never of both", x.cart(35, 37, 0), -1);
            Due.is("nor its bits", x.cart(35, 37, 1), -1);
        });
        Edge.of("CARTING", "the least cost of all that can be; of these the least bits (1: of the lower one)", () -> {
            RivalMills x = Due.of("oven 1 7 7;oven 1 7 7;");
            Due.is("both of the upper one", x.cart(2, 2, 1), 0);
            Due.is("one must be of the lower one", x.cart(1, 1, 1), 1);
            Due.is("the same cost", x.cart(1, 1, 0), 14);
            RivalMills free = Due.of("oven 9 0 99;oven 9 99 0;");
            Due.is("for nothing", free.cart(9, 9, 0), 0);
            Due.is("by these bits", free.cart(9, 9, 1), 2);
            Due.is("dearest", free.cart(0, 18, 0), 891);
            RivalMills twice = Due.of("oven 2 1 0;oven 2 0 0;");
            Due.is("for nothing by two ways", twice.cart(9, 9, 0), 0);
            Due.is("the least of them", twice.cart(9, 9, 1), 1);
            Due.is("the most of all", Due.of("oven 9 99 99;".repeat(8)).cart(99, 99, 0), 8 * 9 * 99);
        });
        Edge.of(28, "if a MILL sells so many SACKS (0 to 99 each)", () -> {
            RivalMills x = Due.of("oven 1 1 1;");
            Due.is("99 each", x.cart(99, 99, 0), 1);
            for (int none : new int[] {-1, 100, LEAST, MOST}) {
                Due.illegal("cart(" + none + ", 0, 0)", () -> x.cart(none, 0, 0));
                Due.illegal("cart(0, " + none + ", 0)", () -> x.cart(0, none, 0));
            }
            for (int what : new int[] {-1, 2, LEAST, MOST}) {
                Due.illegal("cart(0, 0, " + what + ")", () -> x.cart(0, 0, what));
            }
            Due.is("illegal", x.status(2), 12);
        });
        Edge.of(28, "NONE: it can't be", () -> {
            RivalMills x = Due.of("oven 1 0 0;");
            Due.is("nothing to sell", x.cart(0, 0, 0), -1);
            Due.is("no bits", x.cart(0, 0, 1), -1);
            Due.is("one above", x.cart(1, 0, 1), 0);
            Due.is("one below", x.cart(0, 1, 1), 1);
            Due.is("no ovens, no cost", new RivalMills().cart(0, 0, 0), 0);
            Due.is("no ovens, no bits", new RivalMills().cart(0, 0, 1), 0);
        });
    }

    private static void weedsTold() {
        Edge.of("WEEDS", "(12 of these at most, QUARTERS 0 to 23)", () -> {
            RivalMills x = new RivalMills();
            for (int k = 0; k < 12; k++) {
                Due.is("weed " + k, x.weed(23 - k, 99 - k), k + 1);
            }
            Due.is("no thirteenth", x.weed(0, 0), -1);
            Due.is("none of the first ones again", x.weed(23, 99), -1);
            Due.is("twelve", x.told(5), 12);
        });
        Edge.of(29, "-1: there are 12, or one is told of it", () -> {
            RivalMills x = new RivalMills();
            Due.is("weed(0, 0)", x.weed(0, 0), 1);
            Due.is("the same", x.weed(0, 0), -1);
            Due.is("another height", x.weed(0, 99), -1);
            Due.is("one yet", x.told(5), 1);
            // the first one counts: nothing came down in quarter 0, and 10 are there
            Due.is("no way", x.explain(0), 0);
            x.clear();
            Due.is("told of anew", x.weed(0, 10), 1);
            Due.is("every way", x.explain(0), 4096);
            Due.is("that is no refusal", x.status(0) + x.status(1) + x.status(2), 0);
        });
        Edge.of(29, "IllegalArgumentException: QUARTER, inches.", () -> {
            RivalMills x = new RivalMills();
            for (int round = 0; round < 2; round++) {
                for (int quarter : new int[] {-1, 24, LEAST, MOST}) {
                    Due.illegal("weed(" + quarter + ", 0)", () -> x.weed(quarter, 0));
                }
                for (int inches : new int[] {-1, 100, LEAST, MOST}) {
                    Due.illegal("weed(23, " + inches + ")", () -> x.weed(23, inches));
                }
                // again behind twelve
                for (int k = 0; k < 12; k++) {
                    x.weed(k, 0);
                }
            }
            Due.is("illegal", x.status(2), 16);
            Due.is("twelve", x.told(5), 12);
        });
        Edge.of(30, "All WEEDS go: how many.", () -> {
            RivalMills x = new RivalMills();
            Due.is("none", x.clear(), 0);
            x.weed(23, 1);
            Due.is("one", x.clear(), 1);
            Due.is("none then", x.clear(), 0);
            for (int k = 0; k < 14; k++) {
                x.weed(k, 1);
            }
            Due.is("twelve", x.clear(), 12);
            Due.is("told", x.told(5), 0);
            Due.is("every way", x.explain(0), 4096);
        });
    }

    private static void explained() {
        Edge.of(31, "0 how many ways, 1 the first (NONE), 2 SURE hours (0 without a way)", () -> {
            RivalMills x = new RivalMills();
            Due.is("every way", x.explain(0), 4096);
            Due.is("its first", x.explain(1), 0);
            Due.is("nothing sure", x.explain(2), 0);
            x.weed(0, 99);
            Due.is("no way", x.explain(0), 0);
            Due.is("no first", x.explain(1), -1);
            Due.is("no sure hours", x.explain(2), 0);
            for (int what : new int[] {-1, 3, LEAST, MOST}) {
                Due.illegal("explain(" + what + ")", () -> x.explain(what));
            }
            Due.is("illegal", x.status(2), 4);
        });
        Edge.of("WEEDS", "how high the lower POND stood behind (d) of a QUARTER", () -> {
            RivalMills x = Due.of("river 0 0;upper 40 0 1;lower 40 0 1;begin 0 5;");
            x.set(1, 0, 2);
            x.set(1, 23, 3);
            x.weed(0, 3);
            x.weed(22, 3);
            Due.is("behind what goes", x.explain(0), 4096);
            x.weed(23, 0);
            Due.is("in the last one too", x.explain(0), 4096);
            x.weed(1, 5);
            Due.is("not what stood ahead", x.explain(0), 0);
        });
    }

    private static RivalMills wayOf(int opening, int lowerOpening, int gained) {
        RivalMills x = Due.of("river 0 9;upper 40 0 1;lower 40 0 1;begin 20 0;");
        for (int q = 1; q < 24; q++) {
            x.set(1, q, lowerOpening);
        }
        for (int hour = 0; hour < 5; hour++) {
            x.weed(4 * hour + 4, gained * (4 * hour + 4));
        }
        x.weed(21, gained * 21);
        Due.is("ways by " + opening, x.explain(0), 1);
        return x;
    }

    private static void sure() {
        Edge.of("WEEDS", "the first (hour by hour, digits to the base 4, hour 0 the highest)", () -> {
            // each quarter 1 comes down and stays; or 3 come and 2 go
            Due.is("1 in each hour", wayOf(1, 0, 1).explain(1), 1365);
            Due.is("3 in each hour", wayOf(3, 2, 1).explain(1), 4095);
            RivalMills first = Due.of("river 0 9;upper 40 0 1;lower 40 0 1;begin 20 0;");
            first.weed(1, 3);
            Due.is("hour 0 the highest", first.explain(1), 3 * 1024);
            Due.is("the others are free", first.explain(0), 1024);
            RivalMills last = Due.of("river 0 9;upper 40 0 1;lower 40 0 1;begin 20 0;");
            last.weed(20, 0);
            last.weed(21, 3);
            // hours 0 to 4 let nothing through
            Due.is("hour 5 the lowest", last.explain(1), 3);
            Due.is("nothing else can be", last.explain(0), 1);
        });
        Edge.of("WEEDS", "SURE hours: those in which all ways have one opening (bits)", () -> {
            Due.is("all six", wayOf(1, 0, 1).explain(2), 63);
            RivalMills first = Due.of("river 0 9;upper 40 0 1;lower 40 0 1;begin 20 0;");
            first.weed(1, 2);
            Due.is("hour 0", first.explain(2), 1);
            RivalMills last = Due.of("river 0 0;upper 40 0 1;lower 40 0 1;begin 2 0;");
            last.weed(20, 0);
            last.weed(21, 2);
            // 2 are there: openings 2 and 3 let both through in hour 5, so it is not sure; the hours ahead are
            Due.is("two ways", last.explain(0), 2);
            Due.is("all but hour 5", last.explain(2), 31);
            // what hour 5 lets through in its last quarter comes too late
            RivalMills late = Due.of("river 0 0;upper 40 0 1;lower 40 0 1;begin 40 0;");
            late.weed(20, 0);
            Due.is("hour 5 tells nothing then", late.explain(0), 4);
        });
        Edge.of("WEEDS", "by openings of the upper one in hours 0 to 5 (each hour one, 0 to 3; the lower one as by its PLAN)", () -> {
            RivalMills x = Due.of("river 0 9;upper 40 0 1;lower 40 0 1;begin 20 0;");
            x.plan(0, 0, 3);
            x.weed(23, 0);
            Due.is("its own plan does not count", x.explain(1), 0);
            x.clear();
            x.weed(3, 0);
            Due.is("hour 0 shut", x.explain(0), 1024);
            x.set(1, 3, 3);
            // by quarter 3 three times its opening has come down: 3 of it go
            Due.is("or open by 1", x.explain(0), 2048);
            Due.is("the plans stay", x.open(0, 0), 3);
        });
    }

    private static void eels() {
        Edge.of(32, "With an EEL (E 0 to 8) what a MILL GRINDS by the PLANS.", () -> {
            RivalMills x = Due.of("river 0 0;upper 40 0 2;lower 40 0 1;begin 40 40;");
            x.plan(0, 0, 1);
            x.set(0, 5, 3);
            x.plan(1, 23, 2);
            for (int seed : new int[] {0, 1, -1, LEAST, MOST}) {
                Due.is("no eel above", x.eel(0, 0, seed), 14);
                Due.is("no eel below", x.eel(1, 0, seed), 8);
                Due.is("always one above: one opening less", x.eel(0, 8, seed), 4);
                Due.is("always one below", x.eel(1, 8, seed), 4);
            }
            Due.is("no plan, no eel", new RivalMills().eel(0, 8, 3), 0);
            RivalMills ends = Due.of("river 0 0;upper 40 0 1;lower 40 0 1;begin 40 40;");
            for (int q : new int[] {0, 95}) {
                ends.set(0, q, 3);
                ends.set(1, q, 3);
            }
            Due.is("once in the first and once in the last quarter above", ends.eel(0, 8, 1), 4);
            Due.is("once in the first and once in the last quarter below", ends.eel(1, 8, 1), 4);
            for (int e : new int[] {-1, 9, LEAST, MOST}) {
                Due.illegal("eel(0, " + e + ", 0)", () -> x.eel(0, e, 0));
                Due.outOfBounds("eel(2, " + e + ", 0)", () -> x.eel(2, e, 0));
            }
            Due.is("illegal", x.status(2), 4);
            BestEdges.millRefused(x, mill -> x.eel(mill, 0, 0));
            Due.is("plans stay", x.day(0, 0) * 10 + x.day(1, 0), 148);
        });
    }

    /** One sluice open in one quarter: the draw of a seed is below E or not. */
    private static void draw(int seed, int due) {
        RivalMills x = Due.of("river 0 0;upper 40 0 1;lower 40 0 1;begin 40 40;");
        x.set(0, 95, 1);
        for (int e = 0; e <= 8; e++) {
            Due.is("seed " + seed + " below " + e, x.eel(0, e, seed), due < e ? 0 : 1);
        }
    }

    private static void seeds() {
        Edge.of("EEL", "the SEED (32 bits) becomes itself times 1,103,515,245, and 12,345 (it wraps); its bits 16 to 18", () -> {
            // 12,345; 3,191,464,396; 1,043,980,748; 2,147,495,993, each divided by 65,536
            draw(0, 0);
            draw(-1, 48697 % 8);
            draw(MOST, 15929 % 8);
            draw(LEAST, 32768 % 8);
            for (int seed : new int[] {1, 2, 3, 77, 65536, 1 << 30, -65536, 123456789}) {
                long wide = ((seed & 0xffffffffL) * 1103515245L + 12345L) % (1L << 32);
                draw(seed, (int) (wide / 65536 % 8));
            }
        });
        Edge.of("EEL", "in each QUARTER in which a sluice is open", () -> {
            // quarters and sluices that are shut take no draw: the one of quarter 95 is the first
            RivalMills x = Due.of("river 0 0;upper 40 0 1;lower 40 0 1;begin 40 40;hours 1 0 22;");
            x.set(0, 95, 1);
            x.set(1, 95, 3);
            x.set(1, 94, 0);
            Due.is("the first draw", x.eel(0, 1, 0), 0);
            Due.is("another seed", x.eel(0, 1, -1), 1);
            // an open sluice of an empty pond takes one
            RivalMills empty = Due.of("river 0 0;upper 40 0 1;lower 40 0 1;begin 0 40;");
            empty.set(0, 95, 1);
            empty.set(1, 95, 1);
            long second = (12345L * 1103515245L + 12345L) % (1L << 32) / 65536 % 8;
            for (int e = 0; e <= 8; e++) {
                Due.is("the second draw below " + e, empty.eel(1, e, 0), second < e ? 0 : 1);
            }
        });
        Edge.of("EEL", "(the upper one first)", () -> {
            // seed 0: a first draw of 0, below 1, and a second one that is not
            RivalMills x = Due.of("river 0 0;upper 40 0 1;lower 40 0 1;begin 40 40;");
            x.set(0, 0, 1);
            x.set(1, 0, 1);
            long second = (12345L * 1103515245L + 12345L) % (1L << 32) / 65536 % 8;
            Due.is("the second draw is another one", second > 0);
            Due.is("above", x.eel(0, 1, 0), 0);
            Due.is("below", x.eel(1, 1, 0), 1);
        });
    }

    private static void blame() {
        Edge.of("BLAME", "how much more the other one would GRIND by the PLANS, if this one never opened in an hour", () -> {
            // 3 come down on a full pond and are spilled; kept back, they would come down in quarter 9 and go in 12
            RivalMills x = Due.of("river 0 0;upper 9 0 3;lower 5 0 3;begin 3 5;");
            x.set(0, 0, 1);
            x.set(1, 4, 2);
            x.set(0, 8, 1);
            x.set(1, 12, 1);
            Due.is("below so much is ground", x.day(1, 0), 5);
            Due.is("the first hour harms", x.blame(0, 0), 3);
            Due.is("hour 2 does not", x.blame(0, 2), 0);
            Due.is("an hour in which it is shut", x.blame(0, 23), 0);
            Due.is("what goes below harms nobody", x.blame(1, 1), 0);
            Due.is("the plans stay", x.open(0, 0), 1);
        });
        Edge.of(36, "BLAME of an hour (0 to 23; below 0: it would GRIND less)", () -> {
            RivalMills x = Due.of("river 0 0;upper 9 0 3;lower 9 0 3;begin 3 0;");
            x.set(0, 91, 1);
            x.set(1, 92, 1);
            Due.is("it would grind less", x.blame(0, 22), -3);
            Due.is("the last hour", x.blame(0, 23), 0);
            Due.is("the first hour", x.blame(0, 0), 0);
            for (int hour : new int[] {-1, 24, LEAST, MOST}) {
                Due.illegal("blame(0, " + hour + ")", () -> x.blame(0, hour));
                Due.outOfBounds("blame(2, " + hour + ")", () -> x.blame(2, hour));
            }
            Due.is("illegal", x.status(2), 4);
            BestEdges.millRefused(x, mill -> x.blame(mill, 0));
        });
    }

    private static void later() {
        Edge.of("LATER", "each begun with what stands and is on the way then", () -> {
            RivalMills x = Due.of("river 0 0;upper 40 0 1;lower 40 0 1;begin 40 0;");
            x.set(0, 95, 3);
            x.set(1, 0, 3);
            Due.is("on the first day nothing below", x.later(1, 1, 0), 0);
            Due.is("3 are on the way", x.later(1, 2, 0), 3);
            // 3 on each of 13 days, then the last one
            Due.is("13 days above", x.later(0, 13, 1), 1);
            Due.is("14 days above", x.later(0, 14, 1), 0);
            Due.is("all above", x.later(0, 30, 0), 40);
            Due.is("all below", x.later(1, 30, 0), 40);
            Due.is("all but one below", x.later(1, 14, 0), 39);
        });
        Edge.of(37, "LATER (n 1 to 30)", () -> {
            RivalMills x = Due.of("river 0 1;upper 40 0 1;begin 0 0;");
            x.plan(0, 23, 3);
            for (int n : new int[] {0, 31, -1, LEAST, MOST}) {
                Due.illegal("later(0, " + n + ", 0)", () -> x.later(0, n, 0));
                Due.outOfBounds("later(2, " + n + ", 0)", () -> x.later(2, n, 0));
            }
            for (int what : new int[] {-1, 3, LEAST, MOST}) {
                Due.illegal("later(0, 1, " + what + ")", () -> x.later(0, 1, what));
            }
            Due.is("illegal", x.status(2), 9);
            BestEdges.millRefused(x, mill -> x.later(mill, 1, 0));
            Due.is("one day is the day", x.later(0, 1, 0), x.day(0, 0));
            Due.is("its end", x.later(0, 1, 1), x.level(0, 95));
            Due.is("thirty days", x.later(0, 30, 0), 360);
        });
        Edge.of(37, "2 the first DAY (0 on) in which it GRINDS just as in the one ahead; NONE", () -> {
            RivalMills x = Due.of("river 0 0;upper 40 0 1;lower 40 0 1;begin 40 0;");
            Due.is("none ahead of the first", x.later(0, 1, 2), -1);
            Due.is("nothing on both", x.later(0, 2, 2), 1);
            x.set(0, 0, 3);
            Due.is("3 on both", x.later(0, 30, 2), 1);
            RivalMills less = Due.of("river 0 0;upper 40 0 1;lower 40 0 1;begin 4 0;");
            less.set(0, 0, 3);
            // 3, 1, 0, 0
            Due.is("not in three days", less.later(0, 3, 2), -1);
            Due.is("in four", less.later(0, 4, 2), 3);
            Due.is("in thirty", less.later(0, 30, 2), 3);
        });
    }

    private static void dry() {
        Edge.of("DRY", "the longest row of QUARTERS behind which nothing is in a POND by the PLANS", () -> {
            RivalMills x = Due.of("river 0 0;river 1 1;river 2 0;upper 9 0 3;lower 9 0 1;begin 0 0;");
            // empty in hour 0, then 4 come
            Due.is("at the start", x.dry(0), 4);
            x.set(0, 94, 2);
            Due.is("the longer one", x.dry(0), 4);
            x.set(0, 94, 0);
            x.set(0, 90, 2);
            Due.is("up to the end", x.dry(0), 6);
            x.set(0, 4, 1);
            x.set(0, 6, 1);
            // of what comes in hour 1 the first goes at once: empty behind 0 to 4, again behind 6, and from 90 on
            Due.is("rows are not joined", x.dry(0), 6);
            Due.is("dry till it comes down", x.dry(1), 5);
        });
        Edge.of(38, "DRY.", () -> {
            RivalMills x = Due.of("river 0 0;begin 0 1;");
            Due.is("all day", x.dry(0), 96);
            Due.is("never", x.dry(1), 0);
            x.set(1, 95, 1);
            Due.is("in the last quarter", x.dry(1), 1);
            BestEdges.millRefused(x, mill -> x.dry(mill));
        });
    }

    private static void half() {
        Edge.of("HALF", "the least hour up to whose end a MILL GRINDS half of what it GRINDS in the DAY by the PLANS, or more", () -> {
            RivalMills x = Due.of("river 0 0;upper 40 0 1;lower 40 0 1;begin 40 0;");
            x.set(0, 3, 2);
            x.set(0, 92, 2);
            Due.is("just half by the end of the first hour", x.half(0), 0);
            x.set(0, 92, 3);
            Due.is("less than half", x.half(0), 23);
            x.set(0, 3, 3);
            Due.is("half again", x.half(0), 0);
            x.set(0, 3, 0);
            Due.is("the last hour", x.half(0), 23);
            x.set(0, 92, 0);
            x.set(0, 4, 1);
            Due.is("one inch", x.half(0), 1);
            x.set(0, 0, 1);
            Due.is("half of two in the first quarter", x.half(0), 0);
            x.set(0, 4, 0);
            x.set(0, 95, 1);
            Due.is("half of two again", x.half(0), 0);
            x.set(0, 0, 0);
            Due.is("all in the last quarter", x.half(0), 23);
        });
        Edge.of(40, "HALF; NONE: it GRINDS nothing", () -> {
            RivalMills x = Due.of("river 0 0;upper 40 40 1;begin 39 0;");
            Due.is("shut", x.half(0), -1);
            x.plan(0, 0, 3);
            Due.is("all is wasted", x.half(0), -1);
            BestEdges.millRefused(x, mill -> x.half(mill));
        });
    }

    private static void images() {
        Edge.of(41, "An IMAGE of PLANS and WEEDS: how many there are; -1: there are 3.", () -> {
            RivalMills x = new RivalMills();
            for (int k = 1; k <= 3; k++) {
                x.set(0, 0, k);
                x.weed(k, k);
                Due.is("image " + k, x.image(), k);
            }
            x.set(0, 0, 0);
            x.clear();
            Due.is("no fourth", x.image(), -1);
            Due.is("nor then", x.image(), -1);
            Due.is("three", x.count(0), 3);
            Due.is("that is no refusal", x.status(0) + x.status(1) + x.status(2), 0);
            for (int k = 3; k >= 1; k--) {
                Due.is("restore " + k, x.restore(), k - 1);
                Due.is("its plan", x.open(0, 0), k);
                Due.is("its weeds", x.told(5), k);
            }
            Due.is("one again", x.image(), 1);
        });
    }

    private static void restored() {
        Edge.of(42, "All is as in the latest IMAGE, which is gone: how many are left; -1: there is none.", () -> {
            RivalMills x = new RivalMills();
            x.set(1, 95, 2);
            x.weed(23, 5);
            Due.is("there is none", x.restore(), -1);
            Due.is("nothing is done then", x.open(1, 95) * 10 + x.told(5), 21);
            x.image();
            x.take();
            x.clear();
            for (int k = 0; k < 12; k++) {
                x.weed(k, k);
            }
            Due.is("restore", x.restore(), 0);
            for (int q = 0; q < 96; q++) {
                Due.is("open(0, " + q + ")", x.open(0, q), 0);
                Due.is("open(1, " + q + ")", x.open(1, q), q == 95 ? 2 : 0);
            }
            Due.is("one weed", x.told(5), 1);
            Due.is("told of its quarter", x.weed(23, 5), -1);
            Due.is("of no other one", x.weed(0, 0), 2);
            Due.is("gone", x.restore(), -1);
            Due.is("restored plans stay", x.open(1, 95), 2);
        });
    }

    private static void counts() {
        Edge.of(43, "NONE for others. (No IMAGE keeps it.)", () -> {
            RivalMills x = new RivalMills();
            x.image();
            Due.outOfBounds("river(96)", () -> x.river(96));
            Due.noSuch("oven(0, 0)", () -> x.oven(0, 0));
            Due.illegal("told(6)", () -> x.told(6));
            x.restore();
            for (int what : new int[] {0, 1, 2}) {
                Due.is("status(" + what + ")", x.status(what), 1);
            }
            for (int what : new int[] {-1, 3, LEAST, MOST}) {
                Due.is("status(" + what + ")", x.status(what), -1);
            }
            Due.is("asking is no refusal", x.status(2), 1);
            Due.is("mills", Due.tell(x, ""), 0);
            Due.is("mills do not keep it either", x.status(0) + x.status(1) + x.status(2), 3);
        });
        Edge.of(44, "0 IMAGES, 1 bytes of the TAPE; NONE for others.", () -> {
            RivalMills x = new RivalMills();
            Due.is("no images", x.count(0), 0);
            Due.is("an empty tape", x.count(1), 0);
            for (int k = 0; k < 30; k++) {
                x.image();
                x.feed(0x20202020, 0x20202020, 0x20202020, 0x20202020, 0x20202020);
            }
            Due.is("three", x.count(0), 3);
            Due.is("a full one", x.count(1), 500);
            for (int what : new int[] {-1, 2, LEAST, MOST}) {
                Due.is("count(" + what + ")", x.count(what), -1);
            }
            Due.is("no refusal", x.status(2), 0);
        });
    }

    private static void manyCalls() {
        Edge.ofPart("What it is", "An object is used for at most 512 calls after it has been made", () -> {
            // three calls of feed, and mills
            RivalMills x = Due.of("river 0 9;upper 40 7 4;lower 40 9 3;begin 40 40;back 25;");
            int together = x.together();
            int share = x.share(0);
            for (int k = 0; k < 126; k++) {
                x.plan(k % 2, k % 24, k % 4);
                x.reply(k % 2);
                x.weighed(k % 10, k / 10 % 10, 0);
                x.marked(k % 41);
            }
            Due.is("the 511th call", x.together(), together);
            Due.is("the 512th call", x.share(0), share);
        });
    }
}
