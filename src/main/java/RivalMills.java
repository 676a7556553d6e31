import java.util.Arrays;
import java.util.NoSuchElementException;

/** Two mills on one river that grind against each other, told as a text; ../shared/DOC.md says what each call answers. */
public final class RivalMills {
    public static final int NONE = -1;

    private static final int UPPER = 0;
    private static final int LOWER = 1;
    private static final int HOURS = 24;
    private static final int IN_HOUR = 4;
    private static final int QUARTERS = 96;
    private static final int BOTH = 192;
    private static final int WIDEST = 3;
    private static final int DEEPEST = 40;
    private static final int TAPE_BYTES = 500;
    private static final int MOST_OVENS = 8;
    private static final int MOST_CLAUSES = 60;
    private static final int MOST_WEEDS = 12;
    private static final int MOST_IMAGES = 3;
    private static final int MOST_ROUNDS = 12;

    private final byte[] tape = new byte[TAPE_BYTES];
    private int taped = 0;
    private final Reader reader = new Reader();
    private Setting setting = new Setting();
    /** A text is read into this one, so that one with a fault changes nothing. */
    private Setting spare = new Setting();
    private final int[] plans = new int[BOTH];
    private final Weeds weeds = new Weeds();
    private final Images images = new Images();
    private final Day today = new Day();
    private final Kept kept = new Kept();
    /** Made when it is first needed: it is by far the biggest part of the object. */
    private Solver solver = null;
    private final int[] refused = new int[3];
    private int faultPlace = NONE;
    private int turns = 0;

    public RivalMills() {
    }

    // ---- the tape and what it tells ----

    public int feed(int a, int b, int c, int d, int e) {
        if (taped + 20 > TAPE_BYTES) {
            return NONE;
        }
        putNumber(a);
        putNumber(b);
        putNumber(c);
        putNumber(d);
        putNumber(e);
        return taped;
    }

    public int mills(int n) throws IllegalArgumentException {
        needRange(n, 0, taped);
        taped = 0;
        int fault = reader.readText(tape, n, spare);
        faultPlace = fault == 0 ? NONE : reader.place;
        if (fault != 0) {
            return fault - 10;
        }
        Setting old = setting;
        setting = spare;
        spare = old;
        setting.settle();
        Arrays.fill(plans, 0);
        weeds.pullAll();
        images.dropAll();
        kept.forget();
        turns = 0;
        return setting.ovens;
    }

    public int fault() {
        return faultPlace;
    }

    public int mill(int mill, int what) throws IndexOutOfBoundsException, IllegalArgumentException {
        needMill(mill);
        switch (what) {
            case 0: return setting.capacity[mill];
            case 1: return setting.fall[mill];
            case 2: return setting.gate[mill];
            case 3: return setting.begin[mill];
            case 4: return setting.firstHour[mill];
            case 5: return setting.lastHour[mill];
            default: return refuseArgument();
        }
    }

    public int told(int what) throws IllegalArgumentException {
        switch (what) {
            case 0: return setting.mark;
            case 1: return setting.sack;
            case 2: return setting.ovens;
            case 3: return setting.iceFirst;
            case 4: return setting.iceLast;
            case 5: return weeds.told;
            default: return refuseArgument();
        }
    }

    public int river(int quarter) throws IndexOutOfBoundsException {
        needQuarter(quarter);
        return setting.inflow[quarter];
    }

    public int oven(int oven, int what) throws NoSuchElementException, IllegalArgumentException {
        if (oven < 0 || oven >= setting.ovens) {
            refused[1]++;
            throw new NoSuchElementException();
        }
        switch (what) {
            case 0: return setting.ovenSacks[oven];
            case 1: return setting.ovenUpper[oven];
            case 2: return setting.ovenLower[oven];
            default: return refuseArgument();
        }
    }

    // ---- plans and the day by them ----

    public int plan(int mill, int hour, int opening) throws IndexOutOfBoundsException, IllegalArgumentException {
        needMill(mill);
        needRange(hour, 0, HOURS - 1);
        needRange(opening, 0, WIDEST);
        int first = mill * QUARTERS + hour * IN_HOUR;
        int ahead = plans[first];
        Arrays.fill(plans, first, first + IN_HOUR, opening);
        return ahead;
    }

    public int set(int mill, int quarter, int opening) throws IndexOutOfBoundsException, IllegalArgumentException {
        needMill(mill);
        needQuarter(quarter);
        needRange(opening, 0, WIDEST);
        int ahead = plans[mill * QUARTERS + quarter];
        plans[mill * QUARTERS + quarter] = opening;
        return ahead;
    }

    public int open(int mill, int quarter) throws IndexOutOfBoundsException {
        needMill(mill);
        needQuarter(quarter);
        return setting.asItMay(plans, mill * QUARTERS + quarter);
    }

    public int level(int mill, int quarter) throws IndexOutOfBoundsException {
        needMill(mill);
        needQuarter(quarter);
        goThroughDay();
        return today.stands[mill * QUARTERS + quarter];
    }

    public int day(int mill, int what) throws IndexOutOfBoundsException, IllegalArgumentException {
        needMill(mill);
        needRange(what, 0, 5);
        goThroughDay();
        int ground = today.sumOf(today.ground, mill);
        int through = today.sumOf(today.through, mill);
        switch (what) {
            case 0: return ground;
            case 1: return through;
            case 2: return through - ground;
            case 3: return today.sumOf(today.spilled, mill);
            case 4: return setting.sack > 0 ? ground / setting.sack : 0;
            default: return today.grinding(mill);
        }
    }

    public int water(int what) throws IllegalArgumentException {
        needRange(what, 0, 5);
        goThroughDay();
        switch (what) {
            case 0: return setting.allInflow();
            case 1: return setting.begin[UPPER] + setting.begin[LOWER];
            case 2: return today.sumOf(today.spilled, UPPER) + today.sumOf(today.spilled, LOWER);
            case 3: return today.sumOf(today.through, LOWER);
            case 4: return today.flow.upper + today.flow.lower;
            default: return today.flow.way;
        }
    }

    public int back(int quarter) throws IndexOutOfBoundsException {
        needQuarter(quarter);
        goThroughDay();
        return today.backwater[quarter];
    }

    // ---- best plans ----

    public int together() {
        findTogether();
        return kept.total;
    }

    public int best(int mill, int quarter) throws IndexOutOfBoundsException {
        needMill(mill);
        needQuarter(quarter);
        findTogether();
        return kept.plans[mill * QUARTERS + quarter];
    }

    public int take() {
        findTogether();
        System.arraycopy(kept.plans, 0, plans, 0, BOTH);
        return kept.total;
    }

    public int alone(int mill) throws IndexOutOfBoundsException {
        needMill(mill);
        return mostAlone(mill);
    }

    public int reply(int mill) throws IndexOutOfBoundsException {
        needMill(mill);
        return giveReply(mill);
    }

    public int would(int mill) throws IndexOutOfBoundsException {
        needMill(mill);
        return mostByReply(mill);
    }

    public int play() {
        turns = 0;
        for (int turn = 0; turn < 2 * MOST_ROUNDS; turn++) {
            int mover = turn % 2;
            if (restsAhead(turn)) {
                return 1;
            }
            if (mover == UPPER && kept.cameRound(plans, turn / 2)) {
                return 2;
            }
            // The mover's reply is what was sought last, by restsAhead().
            takeReply(mover);
            turns++;
        }
        if (restsAhead(2 * MOST_ROUNDS)) {
            return 1;
        }
        return kept.cameRound(plans, MOST_ROUNDS) ? 2 : 0;
    }

    public int rounds() {
        return turns;
    }

    public int lost() {
        findTogether();
        return kept.total - groundByPlans(UPPER) - groundByPlans(LOWER);
    }

    public int share(int mill) throws IndexOutOfBoundsException {
        needMill(mill);
        return shareTwice(mill);
    }

    public int hand() {
        int upper = mostAlone(UPPER);
        int lower = mostAlone(LOWER);
        if (upper == lower) {
            return 2;
        }
        return upper > lower ? UPPER : LOWER;
    }

    public int harmless() {
        Solver of = readySolver();
        int undisturbed = of.mostWithBackwater(setting, 0);
        for (int high = DEEPEST; high >= 0; high--) {
            int backwater = Math.max(0, high - setting.mark);
            if (backwater == 0 || of.mostWithBackwater(setting, backwater) == undisturbed) {
                return high;
            }
        }
        return NONE;
    }

    // ---- ovens, weeds, eels ----

    public int cart(int upper, int lower, int what) throws IllegalArgumentException {
        needRange(upper, 0, 99);
        needRange(lower, 0, 99);
        needRange(what, 0, 1);
        int least = NONE;
        int leastBits = NONE;
        int ways = 1 << setting.ovens;
        for (int bits = 0; bits < ways; bits++) {
            int cost = setting.carting(bits, upper, lower);
            if (cost >= 0 && (least < 0 || cost < least)) {
                least = cost;
                leastBits = bits;
            }
        }
        return what == 0 ? least : leastBits;
    }

    public int weed(int quarter, int inches) throws IllegalArgumentException {
        needRange(quarter, 0, Weeds.LATEST);
        needRange(inches, 0, 99);
        return weeds.tell(quarter, inches);
    }

    public int clear() {
        return weeds.pullAll();
    }

    public int explain(int what) throws IllegalArgumentException {
        needRange(what, 0, 2);
        weeds.findWays(setting, plans);
        switch (what) {
            case 0: return weeds.ways;
            case 1: return weeds.firstWay;
            default: return weeds.sureHours();
        }
    }

    public int eel(int mill, int e, int seed) throws IndexOutOfBoundsException, IllegalArgumentException {
        needMill(mill);
        needRange(e, 0, 8);
        today.openAs(setting, plans);
        today.letEelIn(e, seed);
        return today.groundFromBegin(setting, mill);
    }

    // ---- what more can be asked of plans ----

    public int weighed(int a, int b, int what) throws IllegalArgumentException {
        needRange(a, 0, 9);
        needRange(b, 0, 9);
        needRange(what, 0, 2);
        findWeighed(a, b);
        switch (what) {
            case 0: return kept.weighedMost;
            case 1: return kept.weighedUpper;
            default: return kept.weighedLower;
        }
    }

    public int pays(int mill) throws IndexOutOfBoundsException {
        needMill(mill);
        findTogether();
        int grinds = mill == UPPER ? kept.upperGround : kept.lowerGround;
        return 2 * grinds - shareTwice(mill);
    }

    public int soonest(int mill, int inches) throws IndexOutOfBoundsException, IllegalArgumentException {
        needMill(mill);
        needRange(inches, 1, 9999);
        Solver of = readySolver();
        of.freeOne(setting, mill, plans);
        return of.firstQuarterWith(inches);
    }

    public int blame(int mill, int hour) throws IndexOutOfBoundsException, IllegalArgumentException {
        needMill(mill);
        needRange(hour, 0, HOURS - 1);
        int other = 1 - mill;
        int now = groundByPlans(other);
        today.openAs(setting, plans);
        today.closeHour(mill, hour);
        return today.groundFromBegin(setting, other) - now;
    }

    public int later(int mill, int n, int what) throws IndexOutOfBoundsException, IllegalArgumentException {
        needMill(mill);
        needRange(n, 1, 30);
        needRange(what, 0, 2);
        today.openAs(setting, plans);
        today.startAsTold(setting);
        int all = 0;
        int ahead = NONE;
        int alike = NONE;
        for (int number = 0; number < n; number++) {
            today.passAll(setting);
            int ground = today.sumOf(today.ground, mill);
            if (alike == NONE && ground == ahead) {
                alike = number;
            }
            ahead = ground;
            all += ground;
        }
        switch (what) {
            case 0: return all;
            case 1: return mill == UPPER ? today.flow.upper : today.flow.lower;
            default: return alike;
        }
    }

    public int dry(int mill) throws IndexOutOfBoundsException {
        needMill(mill);
        goThroughDay();
        return today.longestDry(mill);
    }

    public int marked(int m) throws IllegalArgumentException {
        needRange(m, 0, DEEPEST);
        findTogether();
        if (m == setting.mark) {
            return 0;
        }
        Solver of = readySolver();
        of.freeBoth(setting);
        of.useMark(m);
        of.weighBy(1, 1);
        return kept.total - of.mostWorth();
    }

    public int half(int mill) throws IndexOutOfBoundsException {
        needMill(mill);
        goThroughDay();
        return today.halfHour(mill);
    }

    // ---- images and counts ----

    public int image() {
        return images.keep(plans, weeds);
    }

    public int restore() {
        return images.giveBack(plans, weeds);
    }

    public int status(int what) {
        return what < 0 || what >= refused.length ? NONE : refused[what];
    }

    public int count(int what) {
        switch (what) {
            case 0: return images.held;
            case 1: return taped;
            default: return NONE;
        }
    }

    // ---- refusals ----

    private void needMill(int mill) {
        if (mill < UPPER || mill > LOWER) {
            refused[0]++;
            throw new IndexOutOfBoundsException();
        }
    }

    private void needQuarter(int quarter) {
        if (quarter < 0 || quarter >= QUARTERS) {
            refused[0]++;
            throw new IndexOutOfBoundsException();
        }
    }

    private void needRange(int number, int least, int most) {
        if (number < least || number > most) {
            refuseArgument();
        }
    }

    private int refuseArgument() {
        refused[2]++;
        throw new IllegalArgumentException();
    }

    // ---- helpers of the calls ----

    private void putNumber(int number) {
        for (int shift = 24; shift >= 0 && taped < TAPE_BYTES; shift -= 8) {
            tape[taped] = (byte) (number >>> shift);
            taped++;
        }
    }

    private void goThroughDay() {
        today.openAs(setting, plans);
        today.startAsTold(setting);
        today.passAll(setting);
    }

    private int groundByPlans(int mill) {
        goThroughDay();
        return today.sumOf(today.ground, mill);
    }

    private Solver readySolver() {
        if (solver == null) {
            solver = new Solver();
        }
        return solver;
    }

    private void findTogether() {
        if (kept.togetherKnown) {
            return;
        }
        Solver of = readySolver();
        of.freeBoth(setting);
        of.weighBy(1, 1);
        kept.total = of.mostWorth();
        of.walkFirst();
        System.arraycopy(of.first, 0, kept.plans, 0, BOTH);
        kept.upperGround = of.upperGround;
        kept.lowerGround = of.lowerGround;
        kept.togetherKnown = true;
    }

    private void findWeighed(int a, int b) {
        if (kept.weighedBy == a * 10 + b) {
            return;
        }
        Solver of = readySolver();
        of.freeBoth(setting);
        of.weighBy(a, b);
        kept.weighedMost = of.mostWorth();
        of.walkFirst();
        kept.weighedUpper = of.upperGround;
        kept.weighedLower = of.lowerGround;
        kept.weighedBy = a * 10 + b;
    }

    private int mostAlone(int mill) {
        if (kept.alone[mill] == NONE) {
            Solver of = readySolver();
            of.freeOne(setting, mill, null);
            kept.alone[mill] = of.mostWorth();
        }
        return kept.alone[mill];
    }

    private int shareTwice(int mill) {
        findTogether();
        return mostAlone(mill) + kept.total - mostAlone(1 - mill);
    }

    private int mostByReply(int mill) {
        Solver of = readySolver();
        of.freeOne(setting, mill, plans);
        return of.mostWorth();
    }

    private int giveReply(int mill) {
        int most = mostByReply(mill);
        takeReply(mill);
        return most;
    }

    /** Behind mostByReply() of the same mill. */
    private void takeReply(int mill) {
        Solver of = readySolver();
        of.walkFirst();
        System.arraycopy(of.first, mill * QUARTERS, plans, mill * QUARTERS, QUARTERS);
    }

    private boolean restsAhead(int turn) {
        // Behind the first turn the other one has just replied to the mover's plan: it can't gain.
        boolean otherGains = turn == 0 && gains(LOWER);
        return !gains(turn % 2) && !otherGains;
    }

    private boolean gains(int mill) {
        return mostByReply(mill) > groundByPlans(mill);
    }

    // ---- what the text tells ----

    private static final class Setting {
        final int[] capacity = new int[2];
        final int[] fall = new int[2];
        final int[] gate = new int[2];
        final int[] begin = new int[2];
        final int[] firstHour = new int[2];
        final int[] lastHour = new int[2];
        int mark;
        int sack;
        int iceFirst;
        int iceLast;
        /** What comes from an hour on; NONE where no clause tells of it. */
        final int[] riverFrom = new int[HOURS];
        int ovens;
        final int[] ovenSacks = new int[MOST_OVENS];
        final int[] ovenUpper = new int[MOST_OVENS];
        final int[] ovenLower = new int[MOST_OVENS];
        final int[] inflow = new int[QUARTERS];
        /** How far a sluice may be open at most, upper one's quarters first. */
        final int[] widest = new int[BOTH];

        Setting() {
            untell();
            settle();
        }

        void untell() {
            Arrays.fill(capacity, 20);
            Arrays.fill(fall, 5);
            Arrays.fill(gate, 1);
            Arrays.fill(begin, 10);
            Arrays.fill(firstHour, 0);
            Arrays.fill(lastHour, HOURS - 1);
            mark = DEEPEST;
            sack = 10;
            iceFirst = NONE;
            iceLast = NONE;
            Arrays.fill(riverFrom, NONE);
            ovens = 0;
        }

        void settle() {
            int comes = riverTold() ? 0 : 2;
            for (int hour = 0; hour < HOURS; hour++) {
                if (riverFrom[hour] != NONE) {
                    comes = riverFrom[hour];
                }
                boolean frozen = hour >= iceFirst && hour <= iceLast;
                for (int quarter = hour * IN_HOUR; quarter < hour * IN_HOUR + IN_HOUR; quarter++) {
                    inflow[quarter] = frozen ? 0 : comes;
                    widest[quarter] = widestIn(UPPER, hour, frozen);
                    widest[QUARTERS + quarter] = widestIn(LOWER, hour, frozen);
                }
            }
        }

        private boolean riverTold() {
            for (int hour = 0; hour < HOURS; hour++) {
                if (riverFrom[hour] != NONE) {
                    return true;
                }
            }
            return false;
        }

        private int widestIn(int mill, int hour, boolean frozen) {
            return !frozen && hour >= firstHour[mill] && hour <= lastHour[mill] ? WIDEST : 0;
        }

        int asItMay(int[] plans, int place) {
            return Math.min(plans[place], widest[place]);
        }

        int allInflow() {
            int sum = 0;
            for (int quarter = 0; quarter < QUARTERS; quarter++) {
                sum += inflow[quarter];
            }
            return sum;
        }

        boolean overfull() {
            return begin[UPPER] > capacity[UPPER] || begin[LOWER] > capacity[LOWER];
        }

        /** The cost if the ovens of these bits buy of the lower mill; NONE if a mill has not so many sacks. */
        int carting(int bits, int upperSacks, int lowerSacks) {
            int upperLeft = upperSacks;
            int lowerLeft = lowerSacks;
            int cost = 0;
            for (int oven = 0; oven < ovens && oven < MOST_OVENS; oven++) {
                if ((bits >> oven & 1) == 0) {
                    upperLeft -= ovenSacks[oven];
                    cost += ovenSacks[oven] * ovenUpper[oven];
                } else {
                    lowerLeft -= ovenSacks[oven];
                    cost += ovenSacks[oven] * ovenLower[oven];
                }
            }
            return upperLeft < 0 || lowerLeft < 0 ? NONE : cost;
        }
    }

    /** Reads a text into a setting; its first fault stops it. */
    private static final class Reader {
        private static final int CANNOT_STAND = 1;
        private static final int NO_SUCH_NUMBER = 2;
        private static final int TOO_MANY = 3;
        private static final int TOO_FULL = 4;
        /** Above every number that can stand anywhere: a longer row of digits stays here. */
        private static final int TOO_GREAT = 1000;

        private static final int UNKNOWN = 0;
        private static final int RIVER = 1;
        private static final int UPPER_POND = 2;
        private static final int LOWER_POND = 3;
        private static final int BEGIN = 4;
        private static final int BACK = 5;
        private static final int SACK = 6;
        private static final int HOUR_SPAN = 7;
        private static final int ICE = 8;
        private static final int OVEN = 9;

        private byte[] text;
        private int length;
        private Setting into;
        private int at;
        private int problem;
        int place;

        /** The fault, whose place is kept; 0 without. */
        int readText(byte[] bytes, int n, Setting target) {
            text = bytes;
            length = Math.min(n, bytes.length);
            into = target;
            at = 0;
            problem = 0;
            into.untell();
            skipBlanks();
            for (int clause = 0; clause <= MOST_CLAUSES && at < length && problem == 0; clause++) {
                readClause(clause);
                skipBlanks();
            }
            if (problem == 0 && into.overfull()) {
                fail(TOO_FULL, length);
            }
            return problem;
        }

        private void fail(int kind, int where) {
            if (problem == 0) {
                problem = kind;
                place = where;
            }
        }

        private void skipBlanks() {
            while (at < length && text[at] == ' ') {
                at++;
            }
        }

        private void readClause(int clausesAhead) {
            int start = at;
            while (at < length && text[at] >= 'a' && text[at] <= 'z') {
                at++;
            }
            int word = wordOf(start, at);
            if (word == UNKNOWN) {
                fail(CANNOT_STAND, start);
            } else if (clausesAhead >= MOST_CLAUSES || word == OVEN && into.ovens >= MOST_OVENS) {
                fail(TOO_MANY, start);
            } else {
                readNumbers(word);
                readEnd();
            }
        }

        private void readEnd() {
            skipBlanks();
            if (at < length && text[at] == ';') {
                at++;
            } else {
                fail(CANNOT_STAND, at);
            }
        }

        private int wordOf(int start, int end) {
            if (spells("river", start, end)) return RIVER;
            if (spells("upper", start, end)) return UPPER_POND;
            if (spells("lower", start, end)) return LOWER_POND;
            if (spells("begin", start, end)) return BEGIN;
            if (spells("back", start, end)) return BACK;
            if (spells("sack", start, end)) return SACK;
            if (spells("hours", start, end)) return HOUR_SPAN;
            if (spells("ice", start, end)) return ICE;
            if (spells("oven", start, end)) return OVEN;
            return UNKNOWN;
        }

        private boolean spells(String word, int start, int end) {
            if (end - start != word.length()) {
                return false;
            }
            for (int k = 0; k < word.length(); k++) {
                if (text[start + k] != word.charAt(k)) {
                    return false;
                }
            }
            return true;
        }

        /** A number of the range; its least behind any fault, so that it may be used as an index. */
        private int number(int least, int most) {
            if (problem != 0) {
                return least;
            }
            skipBlanks();
            int start = at;
            int value = 0;
            while (at < length && text[at] >= '0' && text[at] <= '9') {
                value = Math.min(TOO_GREAT, value * 10 + (text[at] - '0'));
                at++;
            }
            if (at == start) {
                fail(CANNOT_STAND, start);
                return least;
            }
            if (value < least || value > most) {
                fail(NO_SUCH_NUMBER, start);
                return least;
            }
            return value;
        }

        private void readNumbers(int word) {
            switch (word) {
                case RIVER: readRiver(); break;
                case UPPER_POND: readPond(UPPER); break;
                case LOWER_POND: readPond(LOWER); break;
                case BEGIN: readBegin(); break;
                case BACK: into.mark = number(0, DEEPEST); break;
                case SACK: into.sack = number(1, 99); break;
                case HOUR_SPAN: readHours(); break;
                case ICE: readIce(); break;
                default: readOven(); break;
            }
        }

        private void readRiver() {
            int hour = number(0, HOURS - 1);
            into.riverFrom[hour] = number(0, 9);
        }

        private void readPond(int mill) {
            into.capacity[mill] = number(1, DEEPEST);
            into.fall[mill] = number(0, DEEPEST);
            into.gate[mill] = number(1, 4);
        }

        private void readBegin() {
            into.begin[UPPER] = number(0, DEEPEST);
            into.begin[LOWER] = number(0, DEEPEST);
        }

        private void readHours() {
            int mill = number(UPPER, LOWER);
            int first = number(0, HOURS - 1);
            into.firstHour[mill] = first;
            into.lastHour[mill] = number(first, HOURS - 1);
        }

        private void readIce() {
            int first = number(0, HOURS - 1);
            into.iceFirst = first;
            into.iceLast = number(first, HOURS - 1);
        }

        private void readOven() {
            int oven = into.ovens;
            if (oven < 0 || oven >= MOST_OVENS) {
                return;
            }
            into.ovenSacks[oven] = number(1, 9);
            into.ovenUpper[oven] = number(0, 99);
            into.ovenLower[oven] = number(0, 99);
            into.ovens++;
        }
    }

    /** What stands in both ponds and is on the way, and what one quarter did. */
    private static final class Flow {
        int upper;
        int lower;
        int way;
        int upperSpilled;
        int lowerSpilled;
        int backwater;
        int upperThrough;
        int lowerThrough;
        int upperGround;
        int lowerGround;

        void standAt(int inUpper, int inLower, int onWay) {
            upper = inUpper;
            lower = inLower;
            way = onWay;
        }

        void passQuarter(Setting by, int quarter, int upperOpening, int lowerOpening) {
            int inUpper = upper + by.inflow[quarter];
            int inLower = lower + way;
            upperSpilled = Math.max(0, inUpper - by.capacity[UPPER]);
            lowerSpilled = Math.max(0, inLower - by.capacity[LOWER]);
            inUpper -= upperSpilled;
            inLower -= lowerSpilled;
            backwater = Math.max(0, inLower - by.mark);
            upperThrough = Math.min(inUpper, upperOpening * by.gate[UPPER]);
            lowerThrough = Math.min(inLower, lowerOpening * by.gate[LOWER]);
            upperGround = inUpper - backwater >= by.fall[UPPER] ? upperThrough : 0;
            lowerGround = inLower >= by.fall[LOWER] ? lowerThrough : 0;
            upper = inUpper - upperThrough;
            lower = inLower - lowerThrough;
            way = upperThrough;
        }
    }

    /** One day gone through by openings; each row has the upper mill's quarters first. */
    private static final class Day {
        private final int[] opening = new int[BOTH];
        final int[] stands = new int[BOTH];
        final int[] ground = new int[BOTH];
        final int[] through = new int[BOTH];
        final int[] spilled = new int[BOTH];
        final int[] backwater = new int[QUARTERS];
        final Flow flow = new Flow();

        void openAs(Setting by, int[] plans) {
            for (int place = 0; place < BOTH; place++) {
                opening[place] = by.asItMay(plans, place);
            }
        }

        void closeHour(int mill, int hour) {
            int first = mill * QUARTERS + hour * IN_HOUR;
            Arrays.fill(opening, first, first + IN_HOUR, 0);
        }

        void letEelIn(int e, int seed) {
            int drawn = seed;
            for (int quarter = 0; quarter < QUARTERS; quarter++) {
                for (int place = quarter; place < BOTH; place += QUARTERS) {
                    if (opening[place] > 0) {
                        drawn = drawn * 1103515245 + 12345;
                        if ((drawn >>> 16 & 7) < e) {
                            opening[place]--;
                        }
                    }
                }
            }
        }

        void startAsTold(Setting by) {
            flow.standAt(by.begin[UPPER], by.begin[LOWER], 0);
        }

        void passAll(Setting by) {
            for (int quarter = 0; quarter < QUARTERS; quarter++) {
                int lower = QUARTERS + quarter;
                flow.passQuarter(by, quarter, opening[quarter], opening[lower]);
                stands[quarter] = flow.upper;
                stands[lower] = flow.lower;
                ground[quarter] = flow.upperGround;
                ground[lower] = flow.lowerGround;
                through[quarter] = flow.upperThrough;
                through[lower] = flow.lowerThrough;
                spilled[quarter] = flow.upperSpilled;
                spilled[lower] = flow.lowerSpilled;
                backwater[quarter] = flow.backwater;
            }
        }

        int groundFromBegin(Setting by, int mill) {
            startAsTold(by);
            passAll(by);
            return sumOf(ground, mill);
        }

        int sumOf(int[] row, int mill) {
            int sum = 0;
            for (int quarter = 0; quarter < QUARTERS; quarter++) {
                sum += row[mill * QUARTERS + quarter];
            }
            return sum;
        }

        int grinding(int mill) {
            int quarters = 0;
            for (int quarter = 0; quarter < QUARTERS; quarter++) {
                if (ground[mill * QUARTERS + quarter] > 0) {
                    quarters++;
                }
            }
            return quarters;
        }

        int longestDry(int mill) {
            int longest = 0;
            int row = 0;
            for (int quarter = 0; quarter < QUARTERS; quarter++) {
                row = stands[mill * QUARTERS + quarter] == 0 ? row + 1 : 0;
                longest = Math.max(longest, row);
            }
            return longest;
        }

        int halfHour(int mill) {
            int all = sumOf(ground, mill);
            int sum = 0;
            for (int quarter = 0; quarter < QUARTERS && all > 0; quarter++) {
                sum += ground[mill * QUARTERS + quarter];
                if (2 * sum >= all) {
                    return quarter / IN_HOUR;
                }
            }
            return NONE;
        }
    }

    /**
     * The best of all plans, from the last quarter to the first. What matters in a quarter is what stands in both ponds
     * behind the spilling: what is on the way then is in the lower pond by the next quarter's.
     */
    private static final class Solver {
        private static final int PLACES = (DEEPEST + 1) * (DEEPEST + 1);
        private static final int PICKS_IN_LONG = 16;
        private static final int LONGS = PLACES / PICKS_IN_LONG + 1;

        private int[] near = new int[PLACES];
        private int[] far = new int[PLACES];
        /** For each quarter and place four bits: the upper one's opening times four, and the lower one's. */
        private final long[] picks = new long[QUARTERS * LONGS];
        private final int[] narrow = new int[BOTH];
        private final int[] wide = new int[BOTH];
        private final int[] upperLeast = new int[QUARTERS];
        private final int[] upperMost = new int[QUARTERS];
        private final int[] lowerLeast = new int[QUARTERS];
        private final int[] lowerMost = new int[QUARTERS];
        private Setting by;
        private int mark;
        private int upperWeight;
        private int lowerWeight;
        private int width;
        final int[] first = new int[BOTH];
        int upperGround;
        int lowerGround;

        void freeBoth(Setting of) {
            by = of;
            mark = of.mark;
            Arrays.fill(narrow, 0);
            System.arraycopy(of.widest, 0, wide, 0, BOTH);
        }

        /** One mill opens as it likes and counts alone, the other one opens by the plans (never, if they are null). */
        void freeOne(Setting of, int mill, int[] plans) {
            freeBoth(of);
            int other = (1 - mill) * QUARTERS;
            for (int place = other; place < other + QUARTERS; place++) {
                narrow[place] = plans == null ? 0 : of.asItMay(plans, place);
                wide[place] = narrow[place];
            }
            weighBy(1 - mill, mill);
        }

        void useMark(int otherMark) {
            mark = otherMark;
        }

        void weighBy(int upper, int lower) {
            upperWeight = upper;
            lowerWeight = lower;
        }

        int mostWorth() {
            bound();
            Arrays.fill(far, 0);
            for (int quarter = QUARTERS - 1; quarter >= 0; quarter--) {
                for (int upper = upperLeast[quarter]; upper <= upperMost[quarter]; upper++) {
                    for (int lower = lowerLeast[quarter]; lower <= lowerMost[quarter]; lower++) {
                        weighPlace(quarter, upper, lower);
                    }
                }
                swap();
            }
            return far[placeOf(upperLeast[0], lowerLeast[0])];
        }

        private void swap() {
            int[] row = near;
            near = far;
            far = row;
        }

        private int placeOf(int upper, int lower) {
            return upper * width + lower;
        }

        private int comesBehind(int quarter) {
            return quarter + 1 < QUARTERS ? by.inflow[quarter + 1] : 0;
        }

        /** Between which levels each pond must stand in each quarter, whatever is opened. */
        private void bound() {
            width = by.capacity[LOWER] + 1;
            int upperTop = by.capacity[UPPER];
            int lowerTop = by.capacity[LOWER];
            int upperGate = by.gate[UPPER];
            int lowerGate = by.gate[LOWER];
            upperLeast[0] = Math.min(upperTop, by.begin[UPPER] + by.inflow[0]);
            upperMost[0] = upperLeast[0];
            lowerLeast[0] = Math.min(lowerTop, by.begin[LOWER]);
            lowerMost[0] = lowerLeast[0];
            for (int q = 0; q + 1 < QUARTERS; q++) {
                int comes = comesBehind(q);
                int upperRest = Math.max(0, upperLeast[q] - wide[q] * upperGate);
                int lowerRest = Math.max(0, lowerLeast[q] - wide[QUARTERS + q] * lowerGate);
                int leastThrough = Math.min(upperLeast[q], narrow[q] * upperGate);
                int mostThrough = Math.min(upperMost[q], wide[q] * upperGate);
                int upperKept = Math.max(0, upperMost[q] - narrow[q] * upperGate);
                int lowerKept = Math.max(0, lowerMost[q] - narrow[QUARTERS + q] * lowerGate);
                upperLeast[q + 1] = Math.min(upperTop, upperRest + comes);
                upperMost[q + 1] = Math.min(upperTop, upperKept + comes);
                lowerLeast[q + 1] = Math.min(lowerTop, lowerRest + leastThrough);
                lowerMost[q + 1] = Math.min(lowerTop, lowerKept + mostThrough);
            }
        }

        private void weighPlace(int quarter, int upper, int lower) {
            int upperWorth = upper - Math.max(0, lower - mark) >= by.fall[UPPER] ? upperWeight : 0;
            int lowerWorth = lower >= by.fall[LOWER] ? lowerWeight : 0;
            int upperTop = by.capacity[UPPER];
            int lowerTop = by.capacity[LOWER];
            int upperGate = by.gate[UPPER];
            int lowerGate = by.gate[LOWER];
            int lowerNarrow = narrow[QUARTERS + quarter];
            int lowerWide = wide[QUARTERS + quarter];
            int comes = comesBehind(quarter);
            int most = NONE;
            int pick = 0;
            int x = NONE;
            for (int o = narrow[quarter]; o <= wide[quarter] && x < upper; o++) {
                x = Math.min(upper, o * upperGate);
                int row = Math.min(upperTop, upper - x + comes) * width;
                int y = NONE;
                for (int p = lowerNarrow; p <= lowerWide && y < lower; p++) {
                    // No calls here: this is gone through millions of times.
                    y = p * lowerGate < lower ? p * lowerGate : lower;
                    int then = lower - y + x;
                    int worth = x * upperWorth + y * lowerWorth + far[row + (then < lowerTop ? then : lowerTop)];
                    if (worth > most) {
                        most = worth;
                        pick = o * 4 + p;
                    }
                }
            }
            int place = placeOf(upper, lower);
            near[place] = most;
            keepPick(quarter, place, pick);
        }

        private void keepPick(int quarter, int place, int pick) {
            int index = quarter * LONGS + place / PICKS_IN_LONG;
            int shift = place % PICKS_IN_LONG * 4;
            picks[index] = picks[index] & ~(15L << shift) | (long) pick << shift;
        }

        private int pickAt(int quarter, int place) {
            int shift = place % PICKS_IN_LONG * 4;
            return (int) (picks[quarter * LONGS + place / PICKS_IN_LONG] >>> shift & 15L);
        }

        /** The first of the best plans, behind mostWorth(), and what each mill grinds by them. */
        void walkFirst() {
            upperGround = 0;
            lowerGround = 0;
            int upper = upperLeast[0];
            int lower = lowerLeast[0];
            for (int quarter = 0; quarter < QUARTERS; quarter++) {
                int pick = pickAt(quarter, placeOf(upper, lower));
                first[quarter] = pick >> 2;
                first[QUARTERS + quarter] = pick & 3;
                int x = Math.min(upper, (pick >> 2) * by.gate[UPPER]);
                int y = Math.min(lower, (pick & 3) * by.gate[LOWER]);
                upperGround += upper - Math.max(0, lower - mark) >= by.fall[UPPER] ? x : 0;
                lowerGround += lower >= by.fall[LOWER] ? y : 0;
                upper = Math.min(by.capacity[UPPER], upper - x + comesBehind(quarter));
                lower = Math.min(by.capacity[LOWER], lower - y + x);
            }
        }

        /** The first quarter by whose end so much worth can have been ground, from the first quarter on; NONE. */
        int firstQuarterWith(int inches) {
            bound();
            Arrays.fill(near, NONE);
            near[placeOf(upperLeast[0], lowerLeast[0])] = 0;
            for (int quarter = 0; quarter < QUARTERS; quarter++) {
                Arrays.fill(far, NONE);
                int most = NONE;
                for (int upper = upperLeast[quarter]; upper <= upperMost[quarter]; upper++) {
                    for (int lower = lowerLeast[quarter]; lower <= lowerMost[quarter]; lower++) {
                        most = Math.max(most, goOn(quarter, upper, lower));
                    }
                }
                if (most >= inches) {
                    return quarter;
                }
                swap();
            }
            return NONE;
        }

        /** What can be ground by a quarter's end through one place (NONE: it is not reached), kept for the next one. */
        private int goOn(int quarter, int upper, int lower) {
            int soFar = near[placeOf(upper, lower)];
            if (soFar < 0) {
                return NONE;
            }
            int upperWorth = upper - Math.max(0, lower - mark) >= by.fall[UPPER] ? upperWeight : 0;
            int lowerWorth = lower >= by.fall[LOWER] ? lowerWeight : 0;
            int comes = comesBehind(quarter);
            int most = NONE;
            for (int o = narrow[quarter]; o <= wide[quarter]; o++) {
                int x = Math.min(upper, o * by.gate[UPPER]);
                int nextUpper = Math.min(by.capacity[UPPER], upper - x + comes);
                for (int p = narrow[QUARTERS + quarter]; p <= wide[QUARTERS + quarter]; p++) {
                    int y = Math.min(lower, p * by.gate[LOWER]);
                    int next = placeOf(nextUpper, Math.min(by.capacity[LOWER], lower - y + x));
                    int ground = soFar + x * upperWorth + y * lowerWorth;
                    far[next] = Math.max(far[next], ground);
                    most = Math.max(most, ground);
                }
            }
            return most;
        }

        /** The most that the upper mill grinds if so much is always taken off its fall. */
        int mostWithBackwater(Setting of, int backwater) {
            int top = of.capacity[UPPER];
            Arrays.fill(far, 0);
            for (int quarter = QUARTERS - 1; quarter >= 0; quarter--) {
                int comes = quarter + 1 < QUARTERS ? of.inflow[quarter + 1] : 0;
                for (int upper = 0; upper <= top; upper++) {
                    int worth = upper - backwater >= of.fall[UPPER] ? 1 : 0;
                    int most = 0;
                    for (int o = 0; o <= of.widest[quarter]; o++) {
                        int x = Math.min(upper, o * of.gate[UPPER]);
                        most = Math.max(most, x * worth + far[Math.min(top, upper - x + comes)]);
                    }
                    near[upper] = most;
                }
                swap();
            }
            return far[Math.min(top, of.begin[UPPER] + of.inflow[0])];
        }
    }

    /** What is kept of the best plans, so that it is found once, and the plans that a play has had. */
    private static final class Kept {
        private static final int LONGS = 6;
        private static final int OPENINGS_IN_LONG = 32;

        boolean togetherKnown;
        int total;
        int upperGround;
        int lowerGround;
        final int[] plans = new int[BOTH];
        final int[] alone = new int[2];
        int weighedBy;
        int weighedMost;
        int weighedUpper;
        int weighedLower;
        private final long[] seen = new long[(MOST_ROUNDS + 1) * LONGS];

        Kept() {
            forget();
        }

        void forget() {
            togetherKnown = false;
            weighedBy = NONE;
            Arrays.fill(alone, NONE);
        }

        /** Are plans as they were before an upper one's turn of this play, of which there were so many? They are kept. */
        boolean cameRound(int[] now, int before) {
            if (before < 0 || before > MOST_ROUNDS) {
                return false;
            }
            pack(now, before * LONGS);
            for (int turn = 0; turn < before; turn++) {
                if (alike(turn * LONGS, before * LONGS)) {
                    return true;
                }
            }
            return false;
        }

        private void pack(int[] now, int start) {
            Arrays.fill(seen, start, start + LONGS, 0L);
            for (int place = 0; place < BOTH; place++) {
                int index = start + place / OPENINGS_IN_LONG;
                seen[index] |= (long) now[place] << place % OPENINGS_IN_LONG * 2;
            }
        }

        private boolean alike(int one, int other) {
            for (int k = 0; k < LONGS; k++) {
                if (seen[one + k] != seen[other + k]) {
                    return false;
                }
            }
            return true;
        }
    }

    /** What the post's weeds tell of the lower pond, and what explains it. */
    private static final class Weeds {
        static final int LATEST = 23;
        private static final int TOLD_HOURS = 6;
        private static final int ROWS = 1 << 2 * TOLD_HOURS;

        final int[] heights = new int[LATEST + 1];
        int told = 0;
        private Setting by;
        private int[] plans;
        private final Flow flow = new Flow();
        private final int[] upperAhead = new int[TOLD_HOURS + 1];
        private final int[] lowerAhead = new int[TOLD_HOURS + 1];
        private final int[] wayAhead = new int[TOLD_HOURS + 1];
        private final int[] openingsSeen = new int[TOLD_HOURS];
        int ways;
        int firstWay;

        Weeds() {
            Arrays.fill(heights, NONE);
        }

        int tell(int quarter, int inches) {
            if (told >= MOST_WEEDS || heights[quarter] != NONE) {
                return -1;
            }
            heights[quarter] = inches;
            told++;
            return told;
        }

        int pullAll() {
            int gone = told;
            Arrays.fill(heights, NONE);
            told = 0;
            return gone;
        }

        void findWays(Setting of, int[] byPlans) {
            by = of;
            plans = byPlans;
            ways = 0;
            firstWay = NONE;
            Arrays.fill(openingsSeen, 0);
            upperAhead[0] = of.begin[UPPER];
            lowerAhead[0] = of.begin[LOWER];
            wayAhead[0] = 0;
            int reached = TOLD_HOURS;
            for (int row = 0; row < ROWS; row++) {
                int changed = firstChanged(row);
                // Behind an hour that did not fit, other openings of later hours can't mend it.
                if (changed <= reached) {
                    reached = fittingHours(row, changed);
                    if (reached == TOLD_HOURS) {
                        noteWay(row);
                    }
                }
            }
        }

        /** The first hour whose opening is another one than in the row ahead (0 of row 0). */
        private static int firstChanged(int row) {
            int hour = TOLD_HOURS - 1;
            while (hour > 0 && openingOf(row, hour) == 0) {
                hour--;
            }
            return hour;
        }

        /** A row tells an opening of each hour by digits to the base 4, hour 0 the highest. */
        private static int openingOf(int row, int hour) {
            return row >> 2 * (TOLD_HOURS - 1 - hour) & 3;
        }

        /** How many hours fit till one does not; those ahead of the hour given do, and what stood behind them is kept. */
        private int fittingHours(int row, int from) {
            for (int hour = from; hour < TOLD_HOURS; hour++) {
                flow.standAt(upperAhead[hour], lowerAhead[hour], wayAhead[hour]);
                if (!fits(hour, openingOf(row, hour))) {
                    return hour;
                }
                upperAhead[hour + 1] = flow.upper;
                lowerAhead[hour + 1] = flow.lower;
                wayAhead[hour + 1] = flow.way;
            }
            return TOLD_HOURS;
        }

        private boolean fits(int hour, int opening) {
            for (int quarter = hour * IN_HOUR; quarter < hour * IN_HOUR + IN_HOUR; quarter++) {
                int upperOpening = Math.min(opening, by.widest[quarter]);
                flow.passQuarter(by, quarter, upperOpening, by.asItMay(plans, QUARTERS + quarter));
                if (heights[quarter] != NONE && heights[quarter] != flow.lower) {
                    return false;
                }
            }
            return true;
        }

        private void noteWay(int row) {
            if (ways == 0) {
                firstWay = row;
            }
            ways++;
            for (int hour = 0; hour < TOLD_HOURS; hour++) {
                openingsSeen[hour] |= 1 << openingOf(row, hour);
            }
        }

        int sureHours() {
            int bits = 0;
            for (int hour = 0; hour < TOLD_HOURS; hour++) {
                if (Integer.bitCount(openingsSeen[hour]) == 1) {
                    bits |= 1 << hour;
                }
            }
            return bits;
        }
    }

    private static final class Images {
        private static final int POSTS = Weeds.LATEST + 1;

        int held = 0;
        private final int[] plans = new int[MOST_IMAGES * BOTH];
        private final int[] heights = new int[MOST_IMAGES * POSTS];
        private final int[] told = new int[MOST_IMAGES];

        int keep(int[] of, Weeds weeds) {
            if (held >= MOST_IMAGES) {
                return -1;
            }
            System.arraycopy(of, 0, plans, held * BOTH, BOTH);
            System.arraycopy(weeds.heights, 0, heights, held * POSTS, POSTS);
            told[held] = weeds.told;
            held++;
            return held;
        }

        int giveBack(int[] to, Weeds weeds) {
            if (held <= 0) {
                return -1;
            }
            held--;
            System.arraycopy(plans, held * BOTH, to, 0, BOTH);
            System.arraycopy(heights, held * POSTS, weeds.heights, 0, POSTS);
            weeds.told = told[held];
            return held;
        }

        void dropAll() {
            held = 0;
        }
    }
}
