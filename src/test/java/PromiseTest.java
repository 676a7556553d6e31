/** Promise by promise: ordinary inputs, the edges that the document names, and wrong inputs. Answers are worked by hand. */
public final class PromiseTest {
    private PromiseTest() {
    }

    public static void main(String[] args) {
        newObject();
        feed();
        mills();
        faults();
        clausesTooMany();
        told();
        rivers();
        ovens();
        plans();
        mayNotOpen();
        days();
        backwater();
        ice();
        together();
        aloneAndReplies();
        plays();
        shares();
        harmless();
        carting();
        weeds();
        eels();
        weighed();
        soonest();
        blame();
        later();
        dryAndHalf();
        marked();
        images();
        refusals();
        longUse();
        Due.end();
    }

    // Promise 1
    private static void newObject() {
        RivalMills x = new RivalMills();
        for (int mill = 0; mill < 2; mill++) {
            int[] due = {20, 5, 1, 10, 0, 23};
            for (int what = 0; what < 6; what++) {
                Due.is("new mill " + mill + " " + what, x.mill(mill, what), due[what]);
            }
            for (int q = 0; q < 96; q++) {
                Due.is("new open", x.open(mill, q), 0);
            }
        }
        int[] due = {40, 10, 0, -1, -1, 0};
        for (int what = 0; what < 6; what++) {
            Due.is("new told " + what, x.told(what), due[what]);
        }
        for (int q = 0; q < 96; q++) {
            Due.is("new river", x.river(q), 2);
        }
        Due.is("new fault", x.fault(), -1);
        Due.is("new rounds", x.rounds(), 0);
        Due.is("new images", x.count(0), 0);
        Due.is("new tape", x.count(1), 0);
        for (int what = 0; what < 3; what++) {
            Due.is("new status", x.status(what), 0);
        }
        // 10 and 96 times 2 come, 20 stay: the rest is spilled
        Due.is("new spilled", x.day(0, 3), 182);
        Due.is("new ground", x.day(0, 0) + x.day(1, 0), 0);
    }

    // Promise 2
    private static void feed() {
        RivalMills x = new RivalMills();
        for (int k = 1; k <= 25; k++) {
            Due.is("feed", x.feed(0x20202020, 0x20202020, 0x20202020, 0x20202020, 0x20202020), 20 * k);
        }
        Due.is("feed too much", x.feed(0, 0, 0, 0, 0), -1);
        Due.is("tape stays", x.count(1), 500);
        Due.is("500 blanks", x.mills(500), 0);
        // "back 7;" then what would be a fault: the highest byte of each number comes first
        Due.is("feed again", x.feed(0x6261636b, 0x20373b00, -1, Integer.MIN_VALUE, 7), 20);
        Due.is("first bytes alone", x.mills(7), 0);
        Due.is("mark", x.told(0), 7);
        Due.is("a byte above 127", faultOf("back 7;\u00e9", 1), 7);
    }

    // Promise 3
    private static void mills() {
        RivalMills x = new RivalMills();
        Due.illegal("mills(1) of none", () -> x.mills(1));
        Due.illegal("mills(-1)", () -> x.mills(-1));
        Due.is("mills(0)", x.mills(0), 0);
        x.feed(0x6261636b, 0x20373b00, 0, 0, 0);
        Due.illegal("mills(21)", () -> x.mills(21));
        Due.is("tape stays when refused", x.count(1), 20);
        Due.is("mills(7)", x.mills(7), 0);
        Due.is("tape is empty then", x.count(1), 0);
        Due.is("refused", x.status(2), 3);
        String[] cut = {"back 71;", "back 7;", "backs 7;", "back 7;x"};
        int[] lengths = {6, 6, 4, 7};
        int[] places = {6, 6, 4, -1};
        for (int k = 0; k < cut.length; k++) {
            Due.is("cut " + cut[k], Due.tell(x, cut[k], lengths[k]), places[k] < 0 ? 0 : -9);
            Due.is("place of cut " + cut[k], x.fault(), places[k]);
        }
        Due.is("two ovens", Due.tell(x, "oven 1 2 3;oven 4 5 6;"), 2);
        x.plan(0, 0, 3);
        x.weed(1, 1);
        x.image();
        x.play();
        int turns = x.rounds();
        Due.is("a play had turns", turns > 0);
        Due.is("a fault answers less 10", Due.tell(x, "oven 1 2;"), -9);
        Due.is("a fault empties the tape", x.count(1), 0);
        Due.is("ovens stay", x.told(2), 2);
        Due.is("weeds stay", x.told(5), 1);
        Due.is("images stay", x.count(0), 1);
        Due.is("rounds stay", x.rounds(), turns);
        x.plan(0, 0, 3);
        Due.is("plans stay", x.plan(0, 0, 3), 3);
        Due.is("new mills", Due.tell(x, ""), 0);
        Due.is("no weeds then", x.told(5), 0);
        Due.is("no images then", x.count(0), 0);
        Due.is("no rounds then", x.rounds(), 0);
        Due.is("plans open nothing then", x.plan(0, 0, 0), 0);
        Due.is("no ovens then", x.told(2), 0);
        Due.is("nothing to restore", x.restore(), -1);
    }

    private static int faultOf(String text, int due) {
        RivalMills x = new RivalMills();
        Due.is("fault of " + text, Due.tell(x, text), due == 0 ? x.told(2) : due - 10);
        return x.fault();
    }

    private static void fault(String text, int kind, int place) {
        Due.is("place of the fault of " + text, faultOf(text, kind), place);
    }

    // Promises 3 and 4
    private static void faults() {
        fault("", 0, -1);
        fault("    ", 0, -1);
        fault(";", 1, 0);
        fault(" x;", 1, 1);
        fault("7;", 1, 0);
        fault("riv", 1, 0);
        fault("rivers 1 1;", 1, 0);
        fault("River 1 1;", 1, 0);
        fault("river", 1, 5);
        fault("river ", 1, 6);
        fault("river 1", 1, 7);
        fault("river 1;", 1, 7);
        fault("river 1 2", 1, 9);
        fault("river 1 2 ", 1, 10);
        fault("river 1 2 3;", 1, 10);
        fault("river 1 2,", 1, 9);
        fault("river 1 2; ;", 1, 11);
        fault("river 1 2;;", 1, 10);
        fault("river -1 2;", 1, 6);
        fault("river\t1 2;", 1, 5);
        fault("river1 2;back007 ;  sack  5;", 0, -1);
        fault("  river 24 x", 2, 8);
        fault("river 23 9;", 0, -1);
        fault("river 23 10;", 2, 9);
        fault("river 99999999999999999999 1;", 2, 6);
        fault("river 4294967296 1;", 2, 6);
        fault("river 00000000000000000001 1;", 0, -1);
        fault("upper 0 1 1;", 2, 6);
        fault("upper 40 40 4;", 0, -1);
        fault("upper 41 1 1;", 2, 6);
        fault("upper 40 41 1;", 2, 9);
        fault("upper 40 0 0;", 2, 11);
        fault("lower 40 0 5;", 2, 11);
        fault("lower 40 0;", 1, 10);
        fault("begin 41 0;", 2, 6);
        fault("begin 0 41;", 2, 8);
        fault("begin 21 0;", 4, 11);
        fault("begin 0 21; ", 4, 12);
        fault("begin 20 20;", 0, -1);
        fault("begin 40 1;upper 40 1 1;", 0, -1);
        fault("upper 9 1 1;", 4, 12);
        fault("lower 9 1 1;", 4, 12);
        fault("lower 9 1 1", 1, 11);
        fault("lower 9 1 1;begin 10 9;", 0, -1);
        fault("begin 30 0;river 1 2;x", 1, 21);
        fault("back 40;", 0, -1);
        fault("back 41;", 2, 5);
        fault("sack 0;", 2, 5);
        fault("sack 1;", 0, -1);
        fault("sack 99;", 0, -1);
        fault("sackz 99;", 1, 0);
        fault("asack 99;", 1, 0);
        fault("sack 100;", 2, 5);
        fault("hours 2 0 1;", 2, 6);
        fault("hours 1 24 24;", 2, 8);
        fault("hours 1 5 24;", 2, 10);
        fault("hours 0 5 4;", 2, 10);
        fault("hours 0 5 5;", 0, -1);
        fault("ice 5 4;", 2, 6);
        fault("ice 24 24;", 2, 4);
        fault("ice 5 24;", 2, 6);
        fault("ice 5;", 1, 5);
        fault("ice 0 23;ice 3 3;", 0, -1);
        fault("oven 0 1 1;", 2, 5);
        fault("oven 10 1 1;", 2, 5);
        fault("oven 9 100 1;", 2, 7);
        fault("oven 9 99 100;", 2, 10);
        fault("oven 9 99 99;", 0, -1);
        RivalMills x = new RivalMills();
        Due.tell(x, "back 41;");
        Due.is("place", x.fault(), 5);
        Due.illegal("refused", () -> x.mills(1));
        Due.is("a refused call is no reading", x.fault(), 5);
        Due.is("reading well", x.mills(0), 0);
        Due.is("no fault then", x.fault(), -1);
    }

    private static void clausesTooMany() {
        String sixty = "back1;".repeat(60);
        fault(sixty, 0, -1);
        fault(sixty + "  ", 0, -1);
        fault(sixty + " sack 5;", 3, 361);
        fault(sixty + "sack", 3, 360);
        fault(sixty + "snack", 1, 360);
        fault(sixty + "5", 1, 360);
        String eight = "oven 1 1 1;".repeat(8);
        fault(eight, 0, -1);
        fault(eight + "back 1;", 0, -1);
        fault(eight + "oven 1 1 1;", 3, 88);
        fault(eight + "oven", 3, 88);
        Due.is("eight ovens", Due.of(eight).told(2), 8);
    }

    // Promises 5 and 6
    private static void told() {
        RivalMills x = Due.of("upper 9 8 2;lower 7 6 3;upper 30 12 4;begin 1 2;begin 3 4;back 9;back 8;sack 7;sack 6;"
            + "hours 0 1 2;hours 1 3 4;hours 0 5 6;ice 7 8;ice 9 11;");
        int[][] due = {{30, 12, 4, 3, 5, 6}, {7, 6, 3, 4, 3, 4}};
        for (int mill = 0; mill < 2; mill++) {
            for (int what = 0; what < 6; what++) {
                Due.is("mill " + mill + " " + what, x.mill(mill, what), due[mill][what]);
            }
        }
        int[] toldDue = {8, 6, 0, 9, 11, 0};
        for (int what = 0; what < 6; what++) {
            Due.is("told " + what, x.told(what), toldDue[what]);
        }
        Due.outOfBounds("mill(2, 9)", () -> x.mill(2, 9));
        Due.outOfBounds("mill(-1, 0)", () -> x.mill(-1, 0));
        Due.illegal("mill(0, 6)", () -> x.mill(0, 6));
        Due.illegal("mill(1, -1)", () -> x.mill(1, -1));
        Due.illegal("told(6)", () -> x.told(6));
        Due.illegal("told(-1)", () -> x.told(-1));
        Due.is("out of bounds", x.status(0), 2);
        Due.is("illegal", x.status(2), 4);
    }

    // Promise 7
    private static void rivers() {
        RivalMills x = Due.of("river 5 3;river 10 9;river 5 4;river 10 0;river 20 7;ice 21 22;");
        int[] hours = {0, 0, 0, 0, 0, 4, 4, 4, 4, 4, 0, 0, 0, 0, 0, 0, 0, 0, 0, 0, 7, 0, 0, 7};
        for (int q = 0; q < 96; q++) {
            Due.is("river " + q, x.river(q), hours[q / 4]);
        }
        Due.outOfBounds("river(96)", () -> x.river(96));
        Due.outOfBounds("river(-1)", () -> x.river(-1));
        Due.is("refused", x.status(0), 2);
    }

    // Promise 8
    private static void ovens() {
        RivalMills x = Due.of("oven 1 2 3;oven 9 99 0;");
        int[] due = {1, 2, 3, 9, 99, 0};
        for (int k = 0; k < 6; k++) {
            Due.is("oven " + k, x.oven(k / 3, k % 3), due[k]);
        }
        Due.noSuch("oven(2, 0)", () -> x.oven(2, 0));
        Due.noSuch("oven(2, 3)", () -> x.oven(2, 3));
        Due.noSuch("oven(-1, 0)", () -> x.oven(-1, 0));
        Due.illegal("oven(0, 3)", () -> x.oven(0, 3));
        Due.illegal("oven(1, -1)", () -> x.oven(1, -1));
        Due.is("no such", x.status(1), 3);
        Due.is("illegal", x.status(2), 2);
    }

    // Promises 9 to 11
    private static void plans() {
        RivalMills x = new RivalMills();
        Due.is("plan", x.plan(1, 23, 3), 0);
        Due.is("plan again", x.plan(1, 23, 2), 3);
        Due.is("set", x.set(1, 93, 1), 2);
        Due.is("plan answers the first quarter's", x.plan(1, 23, 3), 2);
        Due.is("set the first", x.set(1, 92, 0), 3);
        Due.is("plan behind it", x.plan(1, 23, 1), 0);
        for (int q = 0; q < 96; q++) {
            Due.is("open upper " + q, x.open(0, q), 0);
            Due.is("open lower " + q, x.open(1, q), q >= 92 ? 1 : 0);
        }
        Due.outOfBounds("plan(2, 24, 0)", () -> x.plan(2, 24, 0));
        Due.illegal("plan(0, 24, 0)", () -> x.plan(0, 24, 0));
        Due.illegal("plan(0, -1, 0)", () -> x.plan(0, -1, 0));
        Due.illegal("plan(0, 0, 4)", () -> x.plan(0, 0, 4));
        Due.illegal("plan(0, 0, -1)", () -> x.plan(0, 0, -1));
        Due.outOfBounds("set(-1, 0, 0)", () -> x.set(-1, 0, 0));
        Due.outOfBounds("set(0, 96, 9)", () -> x.set(0, 96, 9));
        Due.outOfBounds("set(0, -1, 0)", () -> x.set(0, -1, 0));
        Due.illegal("set(0, 0, 4)", () -> x.set(0, 0, 4));
        Due.illegal("set(0, 0, -1)", () -> x.set(0, 0, -1));
        Due.outOfBounds("open(2, 0)", () -> x.open(2, 0));
        Due.outOfBounds("open(0, 96)", () -> x.open(0, 96));
        Due.outOfBounds("open(0, -1)", () -> x.open(0, -1));
        Due.is("out of bounds", x.status(0), 7);
        Due.is("illegal", x.status(2), 6);
        Due.is("nothing is changed by them", x.open(0, 0) + x.open(1, 0), 0);
    }

    private static void mayNotOpen() {
        RivalMills x = Due.of("hours 0 2 3;ice 3 4;");
        for (int hour = 0; hour < 24; hour++) {
            x.plan(0, hour, 2);
            x.plan(1, hour, 1);
        }
        for (int q = 0; q < 96; q++) {
            Due.is("hours and ice " + q, x.open(0, q), q / 4 == 2 ? 2 : 0);
            Due.is("ice " + q, x.open(1, q), q / 4 == 3 || q / 4 == 4 ? 0 : 1);
        }
        Due.is("let through when it may", x.day(0, 1), 8);
        // what was told is kept as told; open() answers as it may be
        Due.is("plan where it may not", x.plan(0, 0, 0), 2);
    }

    // Promises 12 to 14
    private static void days() {
        RivalMills x = Due.of("river 0 1;upper 6 4 2;lower 5 3 3;begin 5 1;sack 3;");
        x.set(0, 0, 2);
        x.set(0, 1, 1);
        x.set(1, 1, 1);
        x.set(1, 2, 3);
        // quarter 0: 6 stand, 4 go, ground. 1: 3 stand, 2 go, wasted; below 1 and 4 stand, 3 go, ground.
        // 2: 2 stand; below 2 and 2 stand, all 4 go, ground. Behind it the upper pond gains 1 a quarter up to 6.
        int[] upper = {2, 1, 2, 3, 4, 5, 6, 6};
        int[] lower = {1, 2, 0, 0, 0, 0, 0, 0};
        for (int q = 0; q < 8; q++) {
            Due.is("level upper " + q, x.level(0, q), upper[q]);
            Due.is("level lower " + q, x.level(1, q), lower[q]);
        }
        Due.is("level at the end", x.level(0, 95), 6);
        int[][] due = {{4, 6, 2, 89, 1, 1}, {7, 7, 0, 0, 2, 2}};
        for (int mill = 0; mill < 2; mill++) {
            for (int what = 0; what < 6; what++) {
                Due.is("day " + mill + " " + what, x.day(mill, what), due[mill][what]);
            }
        }
        int[] waterDue = {96, 6, 89, 7, 6, 0};
        for (int what = 0; what < 6; what++) {
            Due.is("water " + what, x.water(what), waterDue[what]);
        }
        x.set(0, 95, 3);
        Due.is("on the way", x.water(5), 6);
        Due.is("in the ponds then", x.water(4), 0);
        x.set(1, 3, 3);
        Due.is("an open sluice of an empty pond does not grind", x.day(1, 5), 2);
        lowerSpills();
        Due.outOfBounds("level(2, 0)", () -> x.level(2, 0));
        Due.outOfBounds("level(0, 96)", () -> x.level(0, 96));
        Due.outOfBounds("level(1, -1)", () -> x.level(1, -1));
        Due.outOfBounds("day(2, 6)", () -> x.day(2, 6));
        Due.illegal("day(0, 6)", () -> x.day(0, 6));
        Due.illegal("day(1, -1)", () -> x.day(1, -1));
        Due.illegal("water(6)", () -> x.water(6));
        Due.illegal("water(-1)", () -> x.water(-1));
        Due.is("out of bounds", x.status(0), 4);
        Due.is("illegal", x.status(2), 4);
    }

    private static void lowerSpills() {
        RivalMills x = Due.of("river 0 0;upper 9 0 3;lower 5 0 1;begin 9 5;sack 1;");
        x.set(0, 0, 3);
        x.set(1, 5, 2);
        // 9 go down to a full pond: all are spilled there
        Due.is("spilled below", x.day(1, 3), 9);
        Due.is("nothing spilled above", x.day(0, 3), 0);
        Due.is("spilled in all", x.water(2), 9);
        Due.is("a sack an inch", x.day(1, 4), 2);
    }

    // Promise 15
    private static void backwater() {
        RivalMills x = Due.of("river 0 0;upper 10 6 1;lower 9 0 2;begin 10 7;back 4;");
        x.plan(0, 0, 1);
        x.set(1, 1, 2);
        // below 7, 8 less 4, 5, 6 stand: back 3, 4, 1, 2. Above 10, 9, 8, 7 stand: 7, 5, 7, 5 are left of them
        int[] due = {3, 4, 1, 2, 3, 3};
        for (int q = 0; q < due.length; q++) {
            Due.is("back " + q, x.back(q), due[q]);
        }
        Due.is("ground", x.day(0, 0), 2);
        Due.is("wasted", x.day(0, 2), 2);
        RivalMills none = Due.of("back 7;begin 10 7;");
        Due.is("at the mark", none.back(95), 0);
        RivalMills below = Due.of("river 0 0;upper 10 0 1;lower 9 0 1;begin 1 9;back 0;");
        below.set(0, 0, 1);
        Due.is("more is taken off than stands", below.day(0, 2), 1);
        Due.outOfBounds("back(96)", () -> x.back(96));
        Due.outOfBounds("back(-1)", () -> x.back(-1));
        Due.is("out of bounds", x.status(0), 2);
    }

    private static void ice() {
        RivalMills x = Due.of("river 0 1;upper 40 0 1;lower 40 0 1;begin 10 0;ice 1 23;");
        x.plan(0, 0, 1);
        x.plan(0, 1, 3);
        Due.is("what comes", x.water(0), 4);
        Due.is("let through", x.day(0, 1), 4);
        Due.is("what is on the way comes down under the ice", x.level(1, 4), 4);
        Due.is("above it stands", x.level(0, 95), 10);
    }

    // Promises 16 to 18
    private static void together() {
        RivalMills x = Due.of("river 0 0;upper 4 3 1;lower 4 2 1;begin 4 0;");
        // Above 4 stand: one goes of 4, then three of 3. Below all 4 stand behind it: one goes of 4, then three of 3.
        Due.is("together", x.together(), 8);
        int[][] due = new int[2][96];
        due[0][92] = 1;
        due[0][93] = 3;
        due[1][94] = 1;
        due[1][95] = 3;
        for (int q = 0; q < 96; q++) {
            Due.is("the first opens as late as can be above " + q, x.best(0, q), due[0][q]);
            Due.is("the first opens as late as can be below " + q, x.best(1, q), due[1][q]);
        }
        Due.is("plans stay", x.day(0, 0), 0);
        Due.is("take", x.take(), 8);
        Due.is("taken", x.day(0, 0) + x.day(1, 0), 8);
        for (int q = 0; q < 96; q++) {
            Due.is("taken upper", x.open(0, q), x.best(0, q));
            Due.is("taken lower", x.open(1, q), x.best(1, q));
        }
        RivalMills great = Due.of("river 0 0;upper 40 0 1;lower 40 0 1;begin 40 40;");
        Due.is("the greatest ponds", great.together(), 120);
        great.take();
        Due.is("all of them is ground", great.day(0, 0) * 1000 + great.day(1, 0), 40080);
        RivalMills one = Due.of("river 0 0;upper 5 0 2;lower 5 0 1;begin 5 0;hours 0 3 3;hours 1 5 5;");
        // 5 go above in hour 3, of openings 0, 0, 0, 3 (6, but 5 are there): 0, 0, 0, 3. Below 5 in hour 5: 0, 0, 2, 3
        Due.is("one hour each", one.together(), 10);
        int[] upper = {0, 0, 0, 3};
        int[] lower = {0, 0, 2, 3};
        for (int k = 0; k < 4; k++) {
            Due.is("first upper " + k, one.best(0, 12 + k), upper[k]);
            Due.is("first lower " + k, one.best(1, 20 + k), lower[k]);
        }
        Due.outOfBounds("best(2, 0)", () -> x.best(2, 0));
        Due.outOfBounds("best(0, 96)", () -> x.best(0, 96));
        Due.outOfBounds("best(0, -1)", () -> x.best(0, -1));
        Due.is("out of bounds", x.status(0), 3);
        Due.tell(x, "ice 0 23;");
        Due.is("other mills, other best", x.together(), 0);
        Due.is("other mills, other first", x.best(0, 92) + x.best(1, 95), 0);
    }

    // Promises 19 to 21
    private static void aloneAndReplies() {
        RivalMills x = Due.of("river 0 0;upper 5 0 2;lower 5 3 1;begin 5 4;hours 0 3 3;hours 1 5 5;back 4;");
        // Above: 5 stand below once one has come, so the back is 1 at most, and what stands less 1 is never below 0
        Due.is("alone upper", x.alone(0), 5);
        // Below 4 stand: three at once of 4, or one and three: all 4
        Due.is("alone lower", x.alone(1), 4);
        Due.is("would upper", x.would(0), 5);
        Due.is("plans stay", x.day(0, 1), 0);
        Due.is("reply upper", x.reply(0), 5);
        int[] due = {0, 0, 0, 3};
        for (int k = 0; k < 4; k++) {
            Due.is("the first reply " + k, x.open(0, 12 + k), due[k]);
        }
        // 4 and 5 come together, 5 stay: two and three
        Due.is("would lower", x.would(1), 5);
        Due.is("reply lower", x.reply(1), 5);
        int[] lower = {0, 0, 2, 3};
        for (int k = 0; k < 4; k++) {
            Due.is("the first reply below " + k, x.open(1, 20 + k), lower[k]);
        }
        Due.is("alone is not by the plans", x.alone(1), 4);
        Due.is("the other one's plan stays", x.open(0, 15), 3);
        Due.outOfBounds("alone(2)", () -> x.alone(2));
        Due.outOfBounds("alone(-1)", () -> x.alone(-1));
        Due.outOfBounds("reply(2)", () -> x.reply(2));
        Due.outOfBounds("reply(-1)", () -> x.reply(-1));
        Due.outOfBounds("would(2)", () -> x.would(2));
        Due.outOfBounds("would(-1)", () -> x.would(-1));
        Due.is("out of bounds", x.status(0), 6);
    }

    // Promises 22 to 24
    private static void plays() {
        RivalMills x = Due.of("river 0 0;upper 5 0 2;lower 5 0 1;begin 5 0;hours 0 3 3;hours 1 5 5;");
        Due.is("lost by shut sluices", x.lost(), 10);
        Due.is("it rests", x.play(), 1);
        Due.is("behind both turns", x.rounds(), 2);
        Due.is("nothing is lost", x.lost(), 0);
        Due.is("it rests at once", x.play(), 1);
        Due.is("without a turn", x.rounds(), 0);
        RivalMills lone = Due.of("river 0 0;upper 5 0 2;lower 5 0 1;begin 5 0;hours 0 23 23;hours 1 0 0;");
        Due.is("the lower one has nothing to gain", lone.play(), 1);
        Due.is("it rests behind the upper one's turn", lone.rounds(), 1);
        RivalMills round = Due.of("begin 10 13;lower 14 6 1;upper 19 6 3;back 3;ice 3 12;");
        Due.is("it comes round", round.play(), 2);
        Due.is("behind turns of both", round.rounds() > 0 && round.rounds() % 2 == 0);
        Due.is("then it comes round again", round.play(), 2);
        RivalMills neither = Due.of("begin 0 16;lower 16 0 1;upper 6 1 1;river 9 9;back 6;ice 19 23;");
        Due.is("neither", neither.play(), 0);
        Due.is("12 turns of both", neither.rounds(), 24);
        Due.is("rounds stay", neither.rounds(), 24);
    }

    // Promises 25, 26, 34
    private static void shares() {
        RivalMills x = Due.of("river 0 0;upper 5 0 2;lower 5 0 1;begin 5 1;hours 0 3 3;hours 1 5 5;");
        // alone 5 and 1; together 5 and 5 (of 6 below one is spilled, or one goes never)
        Due.is("alone", x.alone(0) * 10 + x.alone(1), 51);
        Due.is("together", x.together(), 10);
        Due.is("share upper", x.share(0), 14);
        Due.is("share lower", x.share(1), 6);
        Due.is("upper hand", x.hand(), 0);
        Due.is("pays upper", x.pays(0), -4);
        Due.is("pays lower", x.pays(1), 4);
        Due.is("lower hand", Due.of("river 0 0;upper 5 0 2;lower 5 0 1;begin 2 3;").hand(), 1);
        Due.is("both alike", Due.of("river 0 0;upper 5 0 2;lower 5 0 1;begin 3 3;").hand(), 2);
        Due.outOfBounds("share(2)", () -> x.share(2));
        Due.outOfBounds("share(-1)", () -> x.share(-1));
        Due.outOfBounds("pays(2)", () -> x.pays(2));
        Due.outOfBounds("pays(-1)", () -> x.pays(-1));
        Due.is("out of bounds", x.status(0), 4);
    }

    // Promise 27
    private static void harmless() {
        Due.is("no mark", new RivalMills().harmless(), 40);
        // Nothing comes: of 10 above a fall of 5 it grinds down to 4: 6 inches by one gate; 3 more at once from 5: 8.
        // With one inch off its fall it can grind but down to 6, and 3: 7.
        Due.is("each inch above the mark harms", Due.of("river 0 0;upper 20 5 1;back 7;").harmless(), 7);
        Due.is("from the ground on", Due.of("river 0 0;upper 20 5 1;back 0;").harmless(), 0);
        Due.is("it could never grind", Due.of("upper 9 40 1;begin 0 0;back 0;").harmless(), 40);
        Due.is("it may never open", Due.of("ice 0 23;back 0;").harmless(), 40);
        // 20 stand and must sink by 9 in one hour alone: 3 at a time of 20, 17, 14, 11, each 5 or more less 6
        Due.is("so many do no harm", Due.of("river 0 0;begin 20 0;hours 0 3 3;back 0;").harmless(), 6);
        Due.is("more than the lower pond can hold", Due.of("river 0 0;begin 20 0;lower 1 0 1;hours 0 3 3;back 0;").harmless(), 6);
    }

    // Promise 28
    private static void carting() {
        RivalMills x = Due.of("oven 3 1 2;oven 2 5 1;oven 1 4 4;");
        // of the upper 3 + 1 or all from where it is cheap: 3*1 + 2*1 + 1*4; the third may be of either
        Due.is("cost", x.cart(99, 99, 0), 9);
        Due.is("bits, the least", x.cart(99, 99, 1), 2);
        Due.is("the upper one has just 3", x.cart(3, 99, 1), 6);
        Due.is("the same cost", x.cart(3, 99, 0), 9);
        Due.is("the upper one has 2", x.cart(2, 99, 0), 12);
        Due.is("all of the lower one but the third", x.cart(2, 99, 1), 3);
        Due.is("no oven buys of both", x.cart(2, 3, 0), -1);
        Due.is("nor bits", x.cart(2, 3, 1), -1);
        Due.is("nothing to sell", x.cart(0, 0, 0), -1);
        Due.is("all of the lower one", x.cart(0, 6, 1), 7);
        Due.is("all of the lower one cost", x.cart(0, 6, 0), 12);
        Due.is("no ovens", new RivalMills().cart(0, 0, 1), 0);
        RivalMills other = Due.of("oven 9 9 9;oven 9 9 9;");
        Due.tell(other, "oven 9 9 9;oven 9 9 9;");
        Due.tell(other, "oven 1 3 5;");
        Due.is("ovens of other mills are gone", other.cart(9, 9, 0), 3);
        Due.is("for nothing from either", Due.of("oven 2 0 0;oven 2 0 0;").cart(9, 9, 1), 0);
        Due.is("for nothing from one", Due.of("oven 2 1 0;oven 2 0 0;").cart(9, 9, 1), 1);
        Due.illegal("cart(100, 0, 0)", () -> x.cart(100, 0, 0));
        Due.illegal("cart(-1, 0, 0)", () -> x.cart(-1, 0, 0));
        Due.illegal("cart(0, 100, 0)", () -> x.cart(0, 100, 0));
        Due.illegal("cart(0, -1, 0)", () -> x.cart(0, -1, 0));
        Due.illegal("cart(0, 0, 2)", () -> x.cart(0, 0, 2));
        Due.illegal("cart(0, 0, -1)", () -> x.cart(0, 0, -1));
        Due.is("illegal", x.status(2), 6);
    }

    // Promises 29 to 31
    private static void weeds() {
        RivalMills x = Due.of("river 0 0;upper 40 0 1;lower 40 0 1;begin 40 0;");
        Due.is("no weeds: every way", x.explain(0), 4096);
        Due.is("the first", x.explain(1), 0);
        Due.is("nothing is sure", x.explain(2), 0);
        // behind quarter 4 what hour 0 let through is below: 4 times its opening
        Due.is("weed", x.weed(4, 8), 1);
        Due.is("a quarter of the ways", x.explain(0), 1024);
        Due.is("hour 0 opened 2", x.explain(1), 2048);
        Due.is("hour 0 is sure", x.explain(2), 1);
        Due.is("weed of the last quarter", x.weed(23, 99), 2);
        Due.is("nothing explains it", x.explain(0), 0);
        Due.is("no first", x.explain(1), -1);
        Due.is("no sure hours", x.explain(2), 0);
        Due.is("told of already", x.weed(4, 8), -1);
        Due.is("clear", x.clear(), 2);
        Due.is("clear again", x.clear(), 0);
        Due.is("every way again", x.explain(0), 4096);
        x.plan(1, 1, 1);
        x.weed(8, 4);
        // hour 0 lets 4 o down, 1 each go below in quarters 4 to 7, hour 1 lets 4 p down by quarter 8: 4 o - 4 + 4 p is 4
        // by o 1, p 1 and by o 2, p 0; with o 0 nothing is below in quarter 4, and 4 p less 3 is never 4
        Due.is("by the lower one's plan", x.explain(0), 2 * 256);
        Due.is("its first", x.explain(1), 1024 + 256);
        for (int q = 0; q < 12; q++) {
            x.weed(q, 0);
        }
        Due.is("twelve", x.told(5), 12);
        Due.is("no thirteenth", x.weed(12, 0), -1);
        Due.illegal("weed(24, 0)", () -> x.weed(24, 0));
        Due.illegal("weed(-1, 0)", () -> x.weed(-1, 0));
        Due.illegal("weed(0, 100)", () -> x.weed(0, 100));
        Due.illegal("weed(0, -1)", () -> x.weed(0, -1));
        Due.illegal("explain(3)", () -> x.explain(3));
        Due.illegal("explain(-1)", () -> x.explain(-1));
        Due.is("illegal", x.status(2), 6);
        Due.is("clear twelve", x.clear(), 12);
    }

    // Promise 32
    private static void eels() {
        RivalMills x = Due.of("river 0 0;upper 40 0 1;lower 40 0 1;begin 40 40;");
        x.plan(0, 0, 1);
        x.plan(1, 0, 2);
        Due.is("no eel", x.eel(0, 0, 1), 4);
        Due.is("always an eel", x.eel(0, 8, 1), 0);
        Due.is("always one opening less", x.eel(1, 8, 1), 4);
        // seed 1: draws of the first quarters, upper one first, by the rule
        int seed = 1;
        int upper = 4;
        int lower = 8;
        for (int k = 0; k < 8; k++) {
            seed = seed * 1103515245 + 12345;
            boolean less = (seed >>> 16 & 7) < 3;
            upper -= less && k % 2 == 0 ? 1 : 0;
            lower -= less && k % 2 == 1 ? 1 : 0;
        }
        Due.is("eel upper", x.eel(0, 3, 1), upper);
        Due.is("eel lower", x.eel(1, 3, 1), lower);
        Due.is("plans stay", x.day(1, 0), 8);
        Due.outOfBounds("eel(2, 9, 0)", () -> x.eel(2, 9, 0));
        Due.outOfBounds("eel(-1, 0, 0)", () -> x.eel(-1, 0, 0));
        Due.illegal("eel(0, 9, 0)", () -> x.eel(0, 9, 0));
        Due.illegal("eel(0, -1, 0)", () -> x.eel(0, -1, 0));
        Due.is("out of bounds", x.status(0), 2);
        Due.is("illegal", x.status(2), 2);
    }

    // Promise 33
    private static void weighed() {
        RivalMills x = Due.of("river 0 0;upper 5 0 2;lower 5 0 1;begin 5 1;hours 0 3 3;hours 1 5 5;");
        Due.is("most", x.weighed(2, 3, 0), 25);
        Due.is("upper", x.weighed(2, 3, 1), 5);
        Due.is("lower", x.weighed(2, 3, 2), 5);
        Due.is("nothing counts", x.weighed(0, 0, 0), 0);
        Due.is("the first opens nothing", x.weighed(0, 0, 1) + x.weighed(0, 0, 2), 0);
        Due.is("the upper one alone counts", x.weighed(9, 0, 0), 45);
        Due.is("the lower one does not open", x.weighed(9, 0, 2), 0);
        Due.is("the lower one alone counts", x.weighed(0, 9, 0), 45);
        Due.is("other weights", x.weighed(1, 5, 0), 30);
        Due.is("others again", x.weighed(2, 3, 0), 25);
        Due.is("and others", x.weighed(1, 7, 0), 40);
        Due.is("turned round", x.weighed(7, 1, 0), 40);
        Due.illegal("weighed(10, 0, 0)", () -> x.weighed(10, 0, 0));
        Due.illegal("weighed(-1, 0, 0)", () -> x.weighed(-1, 0, 0));
        Due.illegal("weighed(0, 10, 0)", () -> x.weighed(0, 10, 0));
        Due.illegal("weighed(0, -1, 0)", () -> x.weighed(0, -1, 0));
        Due.illegal("weighed(0, 0, 3)", () -> x.weighed(0, 0, 3));
        Due.illegal("weighed(0, 0, -1)", () -> x.weighed(0, 0, -1));
        Due.is("illegal", x.status(2), 6);
        Due.tell(x, "ice 0 23;");
        Due.is("other mills, other weights", x.weighed(0, 9, 0), 0);
    }

    // Promise 35
    private static void soonest() {
        RivalMills x = Due.of("river 0 0;upper 5 0 2;lower 9 0 1;begin 5 1;hours 0 3 3;");
        Due.is("one inch below", x.soonest(1, 1), 0);
        Due.is("never two", x.soonest(1, 2), -1);
        Due.is("above", x.soonest(0, 5), 12);
        Due.is("never six", x.soonest(0, 6), -1);
        x.set(0, 15, 3);
        // 5 come below in quarter 16, and 1 is there: 3 can have gone by 16, 6 by 17
        Due.is("one", x.soonest(1, 1), 0);
        Due.is("four: one at first", x.soonest(1, 4), 16);
        Due.is("five", x.soonest(1, 5), 17);
        Due.is("six", x.soonest(1, 6), 17);
        Due.is("much", x.soonest(1, 9999), -1);
        Due.outOfBounds("soonest(2, 0)", () -> x.soonest(2, 0));
        Due.outOfBounds("soonest(-1, 1)", () -> x.soonest(-1, 1));
        Due.illegal("soonest(0, 0)", () -> x.soonest(0, 0));
        Due.illegal("soonest(0, 10000)", () -> x.soonest(0, 10000));
        Due.is("out of bounds", x.status(0), 2);
        Due.is("illegal", x.status(2), 2);
    }

    // Promise 36
    private static void blame() {
        RivalMills x = Due.of("river 0 0;upper 10 6 1;lower 9 0 2;begin 10 7;back 4;");
        x.plan(0, 0, 1);
        x.set(1, 1, 2);
        // see backwater(): shut below in hour 0, 7, 8, 9, 9 stand there: back 3, 4, 5, 5: of 10, 9, 8, 7 one is ground
        Due.is("the lower one helps", x.blame(1, 0), -1);
        Due.is("in no other hour", x.blame(1, 1), 0);
        Due.is("the upper one does not matter below", x.blame(0, 0), 0);
        Due.is("plans stay", x.day(0, 0), 2);
        RivalMills harm = Due.of("river 0 0;upper 9 0 1;lower 9 0 3;begin 9 9;back 5;");
        harm.set(0, 0, 1);
        harm.set(0, 8, 1);
        harm.set(1, 4, 1);
        // without the upper one's hour 0: 9 stand below either way (1 is spilled)
        Due.is("no harm", harm.blame(0, 0), 0);
        Due.outOfBounds("blame(2, 24)", () -> x.blame(2, 24));
        Due.outOfBounds("blame(-1, 0)", () -> x.blame(-1, 0));
        Due.illegal("blame(0, 24)", () -> x.blame(0, 24));
        Due.illegal("blame(0, -1)", () -> x.blame(0, -1));
        Due.is("out of bounds", x.status(0), 2);
        Due.is("illegal", x.status(2), 2);
        RivalMills waste = Due.of("river 0 0;upper 9 2 1;lower 9 0 1;begin 3 4;back 4;");
        waste.set(0, 0, 1);
        waste.set(0, 4, 1);
        waste.set(1, 8, 3);
        // the upper one lets 2 down: 6 stand there, 3 go; without one of its hours 5: 3 go as well
        Due.is("as much", waste.blame(0, 0), 0);
    }

    // Promise 37
    private static void later() {
        RivalMills x = Due.of("river 0 0;river 23 1;upper 9 0 1;lower 9 0 1;begin 3 0;");
        x.set(0, 95, 3);
        x.set(1, 0, 3);
        // day 0: 3 and 4 stand in 95, 3 go; 4 come each day, 3 go: 4, 5, 6, ..: 9 at most behind 3 go
        Due.is("day 0 below", x.later(1, 1, 0), 0);
        Due.is("what is on the way comes on the next day", x.later(1, 2, 0), 3);
        Due.is("30 days below", x.later(1, 30, 0), 87);
        Due.is("30 days above", x.later(0, 30, 0), 90);
        Due.is("first alike above", x.later(0, 30, 2), 1);
        Due.is("first alike below", x.later(1, 30, 2), 2);
        Due.is("not in two days", x.later(1, 2, 2), -1);
        Due.is("not in one day", x.later(0, 1, 2), -1);
        Due.is("at the end", x.later(0, 1, 1), 4);
        Due.is("at the end of two", x.later(0, 2, 1), 5);
        Due.is("at the end of 30", x.later(0, 30, 1), 6);
        Due.is("below at the end", x.later(1, 30, 1), 0);
        Due.outOfBounds("later(2, 0, 0)", () -> x.later(2, 0, 0));
        Due.outOfBounds("later(-1, 1, 0)", () -> x.later(-1, 1, 0));
        Due.illegal("later(0, 0, 0)", () -> x.later(0, 0, 0));
        Due.illegal("later(0, 31, 0)", () -> x.later(0, 31, 0));
        Due.illegal("later(0, 1, 3)", () -> x.later(0, 1, 3));
        Due.illegal("later(0, 1, -1)", () -> x.later(0, 1, -1));
        Due.is("out of bounds", x.status(0), 2);
        Due.is("illegal", x.status(2), 4);
        Due.is("the day stays", x.level(0, 0), 3);
    }

    // Promises 38 and 40
    private static void dryAndHalf() {
        RivalMills x = Due.of("river 0 0;upper 9 0 1;lower 9 0 1;begin 3 0;");
        Due.is("never dry", x.dry(0), 0);
        Due.is("always dry", x.dry(1), 96);
        Due.is("grinds nothing", x.half(0), -1);
        x.set(0, 10, 3);
        x.set(1, 20, 1);
        x.set(1, 30, 2);
        // above dry behind 10 to 95; below behind 0 to 10, then 3 up to 30
        Due.is("dry above", x.dry(0), 86);
        Due.is("dry below", x.dry(1), 66);
        Due.is("half above", x.half(0), 2);
        Due.is("half below", x.half(1), 7);
        x.set(1, 21, 1);
        Due.is("just half is enough", x.half(1), 5);
        Due.outOfBounds("dry(2)", () -> x.dry(2));
        Due.outOfBounds("dry(-1)", () -> x.dry(-1));
        Due.outOfBounds("half(2)", () -> x.half(2));
        Due.outOfBounds("half(-1)", () -> x.half(-1));
        Due.is("out of bounds", x.status(0), 4);
        RivalMills two = Due.of("river 0 0;upper 9 0 1;lower 9 0 1;begin 4 0;");
        two.set(0, 3, 2);
        two.set(0, 92, 2);
        Due.is("half by the first hour's end", two.half(0), 0);
    }

    // Promise 39
    private static void marked() {
        RivalMills x = Due.of("river 0 0;upper 5 5 2;lower 5 5 1;begin 5 5;hours 0 3 3;hours 1 5 5;back 5;");
        // above 5 go at once of 5, below 5 stand: 3 go of 5 in hour 5; a mark below 5 takes off the fall: nothing above
        Due.is("together", x.together(), 8);
        Due.is("its own mark", x.marked(5), 0);
        Due.is("a higher one", x.marked(40), 0);
        Due.is("a lower one", x.marked(4), 5);
        Due.is("none", x.marked(0), 5);
        Due.is("the mark stays", x.told(0), 5);
        Due.is("together stays", x.together(), 8);
        RivalMills low = Due.of("river 0 0;upper 5 5 2;lower 5 5 1;begin 5 5;hours 0 3 3;hours 1 5 5;back 0;");
        Due.is("more by a higher mark", low.marked(40), -5);
        Due.illegal("marked(41)", () -> x.marked(41));
        Due.illegal("marked(-1)", () -> x.marked(-1));
        Due.is("illegal", x.status(2), 2);
    }

    // Promises 41 and 42
    private static void images() {
        RivalMills x = new RivalMills();
        Due.is("nothing to restore", x.restore(), -1);
        x.plan(0, 0, 1);
        x.weed(3, 4);
        Due.is("image", x.image(), 1);
        x.plan(0, 0, 2);
        x.set(1, 95, 3);
        x.weed(5, 6);
        Due.is("second", x.image(), 2);
        x.clear();
        x.weed(23, 7);
        Due.is("third", x.image(), 3);
        Due.is("weeds of quarter 23 go", x.clear(), 1);
        Due.is("no fourth", x.image(), -1);
        Due.is("three", x.count(0), 3);
        x.plan(0, 0, 0);
        x.play();
        int turns = x.rounds();
        x.feed(1, 2, 3, 4, 5);
        Due.outOfBounds("river(-1)", () -> x.river(-1));
        Due.is("restore the third", x.restore(), 2);
        Due.is("plan of it", x.open(0, 0), 2);
        Due.is("lower plan of it", x.open(1, 95), 3);
        Due.is("weeds of it", x.told(5), 1);
        Due.is("that of quarter 23", x.weed(23, 7), -1);
        Due.is("restore the second", x.restore(), 1);
        Due.is("weeds of the second", x.told(5), 2);
        Due.is("one of them", x.weed(5, 1), -1);
        Due.is("restore the first", x.restore(), 0);
        Due.is("plan of the first", x.open(0, 3), 1);
        Due.is("lower plan of the first", x.open(1, 95), 0);
        Due.is("weeds of the first", x.told(5), 1);
        Due.is("its weed", x.weed(3, 1), -1);
        Due.is("not the second's", x.weed(5, 1), 2);
        Due.is("nothing more", x.restore(), -1);
        Due.is("refusals are kept by no image", x.status(0), 1);
        Due.is("nor the tape", x.count(1), 20);
        Due.is("nor rounds", x.rounds(), turns);
    }

    // Promises 43 and 44
    private static void refusals() {
        RivalMills x = new RivalMills();
        for (int k = 0; k < 3; k++) {
            Due.outOfBounds("half(7)", () -> x.half(7));
        }
        for (int k = 0; k < 2; k++) {
            Due.noSuch("oven(0, 0)", () -> x.oven(0, 0));
        }
        Due.illegal("told(9)", () -> x.told(9));
        Due.is("status(0)", x.status(0), 3);
        Due.is("status(1)", x.status(1), 2);
        Due.is("status(2)", x.status(2), 1);
        Due.is("status(3)", x.status(3), -1);
        Due.is("status(-1)", x.status(-1), -1);
        Due.is("status(least)", x.status(Integer.MIN_VALUE), -1);
        Due.is("count(2)", x.count(2), -1);
        Due.is("count(-1)", x.count(-1), -1);
        x.feed(0, 0, 0, 0, 0);
        Due.is("count(1)", x.count(1), 20);
        Due.is("a fault is no refusal", x.mills(20), -9);
        Due.is("status(2) stays", x.status(2), 1);
        Due.is("mills keeps status", Due.tell(x, "back 3;"), 0);
        Due.is("status(0) stays", x.status(0), 3);
    }

    /** Wild arguments in every place: nothing but the exceptions of the face comes out, and refusals add up. */
    private static void longUse() {
        int[] wild = {Integer.MIN_VALUE, -2, -1, 0, 1, 2, 3, 7, 23, 24, 40, 41, 95, 96, 99, 100, 9999, Integer.MAX_VALUE};
        RivalMills x = Due.of("oven 1 1 1;hours 1 3 9;ice 4 5;back 3;");
        int refused = 0;
        for (int a : wild) {
            for (int b : wild) {
                for (int which = 0; which < 32; which++) {
                    try {
                        wildCall(x, which, a, b);
                    } catch (IndexOutOfBoundsException | IllegalArgumentException | java.util.NoSuchElementException e) {
                        boolean own = e.getClass() == IndexOutOfBoundsException.class
                            || e.getClass() == IllegalArgumentException.class
                            || e.getClass() == java.util.NoSuchElementException.class;
                        Due.is("call " + which + " with " + a + ", " + b + " throws what the face names", own);
                        refused++;
                    }
                }
            }
        }
        Due.is("all refusals are counted", x.status(0) + x.status(1) + x.status(2), refused);
    }

    private static int wildCall(RivalMills x, int which, int a, int b) {
        switch (which) {
            case 0: return x.mills(a);
            case 1: return x.mill(a, b);
            case 2: return x.told(a);
            case 3: return x.river(a);
            case 4: return x.oven(a, b);
            case 5: return x.plan(a, b, 2);
            case 6: return x.plan(0, a, b);
            case 7: return x.set(a, b, 1);
            case 8: return x.set(1, a, b);
            case 9: return x.open(a, b);
            case 10: return x.level(a, b);
            case 11: return x.day(a, b);
            case 12: return x.water(a);
            case 13: return x.back(a);
            case 14: return x.best(a, b);
            case 15: return x.alone(a);
            case 16: return x.would(a);
            case 17: return x.share(a);
            case 18: return x.cart(a, b, 0);
            case 19: return x.cart(5, a, b);
            case 20: return x.weed(a, b);
            case 21: return x.explain(a);
            case 22: return x.eel(a, b, a);
            case 23: return x.weighed(a, 1, b);
            case 24: return x.pays(a);
            case 25: return x.soonest(a, b);
            case 26: return x.blame(a, b);
            case 27: return x.later(a, b, 1);
            case 28: return x.later(0, a, b);
            case 29: return x.dry(a) + x.half(a);
            case 30: return x.marked(a);
            default: return x.status(a) + x.count(b) + x.feed(a, b, a, b, a);
        }
    }
}
