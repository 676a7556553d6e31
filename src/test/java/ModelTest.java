import java.util.Random;

/** The class against the second telling, over settings drawn from one seed. */
public final class ModelTest {
    private static String about;

    private ModelTest() {
    }

    public static void main(String[] args) {
        Random dice = new Random(20261117L);
        for (int k = 0; k < 60; k++) {
            compare(dice, Model.random(dice, false, 12));
        }
        for (int k = 0; k < 8; k++) {
            compare(dice, Model.random(dice, false, 40));
        }
        for (int k = 0; k < 6; k++) {
            compareByAllPlans(Model.random(dice, true, 20));
        }
        plays();
        compare(dice, Model.of(40, 7, 4, 40, 9, 3, 40, 40, 25));
        Due.end();
    }

    /** Plays of every kind of end, the lower one's sluice open by the opening behind all day at first. */
    private static void plays() {
        played(Model.of(4, 4, 2, 6, 6, 2, 4, 0, 1), 1, 0, 24);
        played(Model.of(5, 4, 2, 3, 3, 2, 3, 2, 0), 0, 1, 0);
        played(Model.of(1, 1, 1, 2, 0, 2, 1, 0, 0), 0, 1, 1);
        played(Model.of(7, 0, 1, 6, 3, 1, 6, 4, 1), 3, 1, 2);
        played(Model.of(5, 4, 3, 6, 1, 2, 5, 6, 4), 1, 1, 3);
        played(Model.of(1, 0, 1, 9, 9, 1, 0, 6, 0), 1, 1, 23);
        played(Model.of(1, 0, 2, 6, 2, 2, 1, 3, 0), 3, 1, 24);
        played(Model.of(7, 3, 2, 4, 3, 3, 1, 3, 1), 2, 2, 6);
        played(Model.of(8, 0, 1, 7, 7, 3, 7, 3, 0), 3, 2, 22);
        played(Model.of(3, 2, 3, 6, 5, 1, 0, 0, 5), 2, 2, 24);
    }

    private static void played(Model y, int opening, int answer, int turns) {
        about = y.text + " " + opening;
        RivalMills x = Due.of(y.text.toString());
        for (int hour = 0; hour < 24; hour++) {
            x.plan(1, hour, opening);
        }
        java.util.Arrays.fill(y.plan[1], opening);
        is("play", x.play(), answer);
        is("rounds", x.rounds(), turns);
        int[] due = y.play();
        is("play by the model", due[0], answer);
        is("rounds by the model", due[1], turns);
        samePlans("play", x, y);
        is("play again", x.play(), y.play()[0]);
        if (answer == 2) {
            is("then it goes round from where it is", x.rounds(), wayRound(y));
            samePlans("a play round", x, y);
        }
    }

    /** How many turns it takes from plans that come round till they are as they are now. */
    private static int wayRound(Model y) {
        String start = java.util.Arrays.deepToString(y.plan);
        int turns = 0;
        do {
            y.reply(0);
            y.reply(1);
            turns += 2;
        } while (turns < 24 && !start.equals(java.util.Arrays.deepToString(y.plan)));
        return turns;
    }

    private static void is(String call, int got, int want) {
        Due.is(about + ": " + call, got, want);
    }

    private static void compare(Random dice, Model y) {
        about = y.text.toString();
        RivalMills x = new RivalMills();
        is("mills", Due.tell(x, about), y.ovens);
        told(x, y);
        byPlans(dice, x, y);
        for (int k = 0; k < 40; k++) {
            int mill = dice.nextInt(2);
            int hour = dice.nextInt(24);
            int opening = dice.nextInt(4);
            is("plan", x.plan(mill, hour, opening), y.plan[mill][4 * hour]);
            java.util.Arrays.fill(y.plan[mill], 4 * hour, 4 * hour + 4, opening);
            int quarter = dice.nextInt(96);
            is("set", x.set(mill, quarter, opening), y.plan[mill][quarter]);
            y.plan[mill][quarter] = opening;
        }
        byPlans(dice, x, y);
        weeds(dice, x, y);
        best(dice, x, y);
        replies(dice, x, y);
        byPlans(dice, x, y);
    }

    private static void told(RivalMills x, Model y) {
        for (int k = 0; k < 2; k++) {
            int[] due = {y.c[k], y.f[k], y.g[k], y.begin[k], y.from[k], y.to[k]};
            for (int what = 0; what < 6; what++) {
                is("mill " + k + " " + what, x.mill(k, what), due[what]);
            }
        }
        int[] due = {y.m, y.sack, y.ovens, y.iceFrom, y.iceTo, 0};
        for (int what = 0; what < 6; what++) {
            is("told " + what, x.told(what), due[what]);
        }
        for (int q = 0; q < 96; q++) {
            is("river " + q, x.river(q), y.come[q]);
        }
        for (int k = 0; k < y.ovens; k++) {
            for (int what = 0; what < 3; what++) {
                is("oven " + k + " " + what, x.oven(k, what), y.oven[k][what]);
            }
        }
        for (int k = 0; k < 100; k += 7) {
            int[] cart = y.cart(k, 99 - k * k % 100);
            is("cart cost " + k, x.cart(k, 99 - k * k % 100, 0), cart[0]);
            is("cart bits " + k, x.cart(k, 99 - k * k % 100, 1), cart[1]);
        }
        is("harmless", x.harmless(), y.harmless());
    }

    private static void byPlans(Random dice, RivalMills x, Model y) {
        Model.Told t = y.day();
        for (int k = 0; k < 2; k++) {
            int quarters = 0;
            for (int q = 0; q < 96; q++) {
                is("open " + k + " " + q, x.open(k, q), y.opens(k, q));
                is("level " + k + " " + q, x.level(k, q), t.level[k][q]);
                quarters += t.ground[k][q] > 0 ? 1 : 0;
            }
            int through = Model.Told.sum(t.through[k]);
            int ground = t.ground(k);
            int spilled = Model.Told.sum(t.spilled[k]);
            int[] due = {ground, through, through - ground, spilled, ground / y.sack, quarters};
            for (int what = 0; what < 6; what++) {
                is("day " + k + " " + what, x.day(k, what), due[what]);
            }
            is("dry " + k, x.dry(k), y.dry(k));
            is("half " + k, x.half(k), y.half(k));
            for (int hour = 0; hour < 24; hour++) {
                is("blame " + k + " " + hour, x.blame(k, hour), y.blame(k, hour));
            }
            for (int e = 0; e <= 8; e++) {
                int seed = dice.nextInt();
                is("eel " + k + " " + e + " " + seed, x.eel(k, e, seed), y.eel(k, e, seed));
            }
            for (int n : new int[] {1, 2, 3, 7, 30}) {
                for (int what = 0; what < 3; what++) {
                    is("later " + k + " " + n + " " + what, x.later(k, n, what), y.later(k, n)[what]);
                }
            }
        }
        waters(x, y, t);
    }

    private static void waters(RivalMills x, Model y, Model.Told t) {
        int spilled = Model.Told.sum(t.spilled[0]) + Model.Told.sum(t.spilled[1]);
        int came = Model.Told.sum(y.come);
        int first = y.begin[0] + y.begin[1];
        int gone = Model.Told.sum(t.through[1]);
        int[] due = {came, first, spilled, gone, t.level[0][95] + t.level[1][95], t.way};
        for (int what = 0; what < 6; what++) {
            is("water " + what, x.water(what), due[what]);
        }
        is("water adds up", x.water(0) + x.water(1), x.water(2) + x.water(3) + x.water(4) + x.water(5));
        for (int q = 0; q < 96; q++) {
            is("back " + q, x.back(q), t.back[q]);
        }
    }

    private static void weeds(Random dice, RivalMills x, Model y) {
        int[] heights = new int[24];
        java.util.Arrays.fill(heights, -1);
        int[][] o = y.opened();
        int code = dice.nextInt(4096);
        for (int q = 0; q < 24; q++) {
            o[0][q] = y.may(0, q) ? Model.digit(code, q / 4) : 0;
        }
        Model.Told t = y.day(o, y.begin[0], y.begin[1], 0);
        int told = 0;
        for (int k = 0; k < 14; k++) {
            int quarter = dice.nextInt(24);
            int inches = dice.nextInt(12) == 0 ? dice.nextInt(5) : t.level[1][quarter];
            boolean taken = told < 12 && heights[quarter] < 0;
            is("weed", x.weed(quarter, inches), taken ? ++told : -1);
            heights[quarter] = taken ? inches : heights[quarter];
            int[] due = y.explain(heights);
            for (int what = 0; what < 3; what++) {
                is("explain " + what + " behind " + told, x.explain(what), due[what]);
            }
        }
        is("weeds told", x.told(5), told);
    }

    private static void best(Random dice, RivalMills x, Model y) {
        Model.Best both = y.both(1, 1).walked();
        int all = both.most();
        int[] alone = {y.alone(0), y.alone(1)};
        is("together", x.together(), all);
        for (int k = 0; k < 2; k++) {
            for (int q = 0; q < 96; q++) {
                is("best " + k + " " + q, x.best(k, q), both.first[k][q]);
            }
            int ground = y.day(both.first, y.begin[0], y.begin[1], 0).ground(k);
            int share = alone[k] + all - alone[1 - k];
            is("alone " + k, x.alone(k), alone[k]);
            is("share " + k, x.share(k), share);
            is("pays " + k, x.pays(k), 2 * ground - share);
        }
        is("hand", x.hand(), alone[0] > alone[1] ? 0 : alone[0] < alone[1] ? 1 : 2);
        is("lost", x.lost(), all - y.day().ground(0) - y.day().ground(1));
        for (int k = 0; k < 3; k++) {
            int mark = dice.nextInt(41);
            is("marked " + mark, x.marked(mark), all - y.togetherWithMark(mark));
            int a = dice.nextInt(10);
            int b = dice.nextInt(10);
            Model.Best weighed = y.both(a, b).walked();
            Model.Told t = y.day(weighed.first, y.begin[0], y.begin[1], 0);
            is("weighed most " + a + " " + b, x.weighed(a, b, 0), weighed.most());
            is("weighed upper " + a + " " + b, x.weighed(a, b, 1), t.ground(0));
            is("weighed lower " + a + " " + b, x.weighed(a, b, 2), t.ground(1));
        }
    }

    private static void replies(Random dice, RivalMills x, Model y) {
        for (int k = 0; k < 2; k++) {
            is("would " + k, x.would(k), y.would(k));
            int inches = 1 + dice.nextInt(1 + y.would(k));
            is("soonest " + k + " " + inches, x.soonest(k, inches), y.soonest(k, inches));
            is("soonest " + k + " too much", x.soonest(k, y.would(k) + 1), -1);
        }
        int[] play = y.play();
        is("play", x.play(), play[0]);
        is("rounds", x.rounds(), play[1]);
        samePlans("play", x, y);
        int mill = dice.nextInt(2);
        is("reply", x.reply(mill), y.reply(mill));
        samePlans("reply", x, y);
        int total = y.both(1, 1).most();
        is("take", x.take(), total);
        Model.Best both = y.both(1, 1).walked();
        for (int k = 0; k < 2; k++) {
            System.arraycopy(both.first[k], 0, y.plan[k], 0, 96);
        }
        samePlans("take", x, y);
        is("lost behind take", x.lost(), 0);
    }

    private static void samePlans(String behind, RivalMills x, Model y) {
        for (int k = 0; k < 2; k++) {
            for (int q = 0; q < 96; q++) {
                is("open " + k + " " + q + " behind " + behind, x.open(k, q), y.opens(k, q));
            }
        }
    }

    /** No memory at all: every plan of two mills that may open in one hour each is gone through, in the order due. */
    private static void compareByAllPlans(Model y) {
        about = y.text.toString();
        RivalMills x = Due.of(about);
        int most = -1;
        int mostUpper = 0;
        int mostLower = 0;
        int[][] first = null;
        int[] alone = new int[2];
        boolean upperAhead = y.from[0] < y.from[1];
        for (int code = 0; code < 65536; code++) {
            int[][] o = openings(y, code, upperAhead);
            Model.Told t = y.day(o, y.begin[0], y.begin[1], 0);
            int both = t.ground(0) + t.ground(1);
            if (both > most) {
                most = both;
                first = o;
                mostUpper = t.ground(0);
                mostLower = t.ground(1);
            }
            boolean lowerShut = Model.Told.sum(o[1]) == 0;
            boolean upperShut = Model.Told.sum(o[0]) == 0;
            alone[0] = lowerShut ? Math.max(alone[0], t.ground(0)) : alone[0];
            alone[1] = upperShut ? Math.max(alone[1], t.ground(1)) : alone[1];
        }
        is("together by all plans", x.together(), most);
        for (int k = 0; k < 2; k++) {
            is("alone by all plans " + k, x.alone(k), alone[k]);
            is("would by all plans " + k, x.would(k), alone[k]);
            for (int q = 0; q < 96; q++) {
                is("best by all plans " + k + " " + q, x.best(k, q), first[k][q]);
            }
        }
        is("weighed upper by all plans", x.weighed(1, 1, 1), mostUpper);
        is("weighed lower by all plans", x.weighed(1, 1, 2), mostLower);
    }

    /** The plans in the order due: quarter by quarter, the upper one's opening, then the lower one's. */
    private static int[][] openings(Model y, int code, boolean upperAhead) {
        int[][] o = new int[2][96];
        boolean sameHour = y.from[0] == y.from[1];
        for (int k = 0; k < 4; k++) {
            int upperDigit = sameHour ? 2 * k : upperAhead ? k : 4 + k;
            int lowerDigit = sameHour ? 2 * k + 1 : upperAhead ? 4 + k : k;
            int upperQuarter = 4 * y.from[0] + k;
            int lowerQuarter = 4 * y.from[1] + k;
            o[0][upperQuarter] = y.may(0, upperQuarter) ? code >> 2 * (7 - upperDigit) & 3 : 0;
            o[1][lowerQuarter] = y.may(1, lowerQuarter) ? code >> 2 * (7 - lowerDigit) & 3 : 0;
        }
        return o;
    }
}
