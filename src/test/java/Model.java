import java.util.Arrays;
import java.util.Random;

/**
 * A second telling of the document, written apart from the class: plain and slow. Best plans are sought by memory over
 * (quarter, upper pond, lower pond, on the way), not over what stands behind the spilling as in the class.
 */
final class Model {
    final int[] c = {20, 20};
    final int[] f = {5, 5};
    final int[] g = {1, 1};
    final int[] begin = {10, 10};
    final int[] from = {0, 0};
    final int[] to = {23, 23};
    int m = 40;
    int sack = 10;
    int iceFrom = -1;
    int iceTo = -1;
    final int[] come = new int[96];
    int ovens = 0;
    final int[][] oven = new int[8][3];
    final int[][] plan = new int[2][96];
    final StringBuilder text = new StringBuilder();

    Model() {
        Arrays.fill(come, 2);
    }

    /** A random setting with its text; with oneHour each mill may open in one hour alone. */
    static Model random(Random dice, boolean oneHour, int deepest) {
        Model x = new Model();
        x.randomPonds(dice, deepest);
        x.randomRiver(dice);
        if (dice.nextBoolean()) {
            x.m = dice.nextInt(deepest + 1);
            x.text.append("back ").append(x.m).append(';');
        }
        if (dice.nextBoolean()) {
            x.sack = 1 + dice.nextInt(99);
            x.text.append("  sack").append(x.sack).append(" ;");
        }
        x.randomHours(dice, oneHour);
        x.randomOvens(dice);
        return x;
    }

    /** A setting of nine numbers: C, F, G of the upper mill and of the lower one, begin, back. */
    static Model of(int... told) {
        Model x = new Model();
        for (int k = 0; k < 2; k++) {
            x.c[k] = told[3 * k];
            x.f[k] = told[3 * k + 1];
            x.g[k] = told[3 * k + 2];
            x.begin[k] = told[6 + k];
        }
        x.m = told[8];
        x.text.append(String.format("upper %d %d %d;lower %d %d %d;begin %d %d;back %d;",
            told[0], told[1], told[2], told[3], told[4], told[5], told[6], told[7], told[8]));
        return x;
    }

    private void randomPonds(Random dice, int deepest) {
        for (int k = 0; k < 2; k++) {
            c[k] = 1 + dice.nextInt(deepest);
            f[k] = dice.nextInt(Math.min(40, c[k] + 2));
            g[k] = 1 + dice.nextInt(4);
            begin[k] = dice.nextInt(c[k] + 1);
        }
        text.append("begin ").append(begin[0]).append(' ').append(begin[1]).append(";");
        text.append("lower ").append(c[1]).append(' ').append(f[1]).append(' ').append(g[1]).append(";");
        text.append("upper").append(c[0]).append(' ').append(f[0]).append(' ').append(g[0]).append(" ; ");
    }

    private void randomRiver(Random dice) {
        int[] told = new int[24];
        Arrays.fill(told, -1);
        int clauses = dice.nextInt(5);
        for (int k = 0; k < clauses; k++) {
            int hour = dice.nextInt(24);
            told[hour] = dice.nextInt(10);
            text.append("river ").append(hour).append(' ').append(told[hour]).append(';');
        }
        int now = clauses == 0 ? 2 : 0;
        for (int q = 0; q < 96; q++) {
            now = told[q / 4] >= 0 ? told[q / 4] : now;
            come[q] = now;
        }
    }

    private void randomHours(Random dice, boolean oneHour) {
        for (int k = 0; k < 2; k++) {
            if (oneHour || dice.nextInt(3) == 0) {
                from[k] = dice.nextInt(oneHour ? 6 : 24);
                to[k] = oneHour ? from[k] : from[k] + dice.nextInt(24 - from[k]);
                text.append("hours ").append(k).append(' ').append(from[k]).append(' ').append(to[k]).append(';');
            }
        }
        if (dice.nextInt(3) == 0) {
            iceFrom = dice.nextInt(24);
            iceTo = iceFrom + dice.nextInt(24 - iceFrom);
            text.append("ice ").append(iceFrom).append(' ').append(iceTo).append("; ");
            for (int q = 4 * iceFrom; q < 4 * iceTo + 4; q++) {
                come[q] = 0;
            }
        }
    }

    private void randomOvens(Random dice) {
        ovens = dice.nextInt(9);
        for (int k = 0; k < ovens; k++) {
            oven[k][0] = 1 + dice.nextInt(9);
            oven[k][1] = dice.nextInt(100);
            oven[k][2] = dice.nextInt(100);
            text.append("oven ").append(oven[k][0]).append(' ').append(oven[k][1]).append(' ').append(oven[k][2]);
            text.append(';');
        }
    }

    boolean may(int mill, int q) {
        int hour = q / 4;
        if (hour >= iceFrom && hour <= iceTo && iceFrom >= 0) {
            return false;
        }
        return from[mill] <= hour && hour <= to[mill];
    }

    int opens(int mill, int q) {
        return may(mill, q) ? plan[mill][q] : 0;
    }

    /** What a day did: rows by quarter. */
    static final class Told {
        final int[][] level = new int[2][96];
        final int[][] ground = new int[2][96];
        final int[][] through = new int[2][96];
        final int[][] spilled = new int[2][96];
        final int[] back = new int[96];
        int way;

        int ground(int mill) {
            return sum(ground[mill]);
        }

        static int sum(int[] row) {
            int all = 0;
            for (int x : row) {
                all += x;
            }
            return all;
        }
    }

    int[][] opened() {
        int[][] o = new int[2][96];
        for (int q = 0; q < 96; q++) {
            o[0][q] = opens(0, q);
            o[1][q] = opens(1, q);
        }
        return o;
    }

    Told day(int[][] o, int u, int l, int way) {
        Told t = new Told();
        int[] pond = {u, l};
        for (int q = 0; q < 96; q++) {
            pond[0] += come[q];
            pond[1] += way;
            for (int k = 0; k < 2; k++) {
                if (pond[k] > c[k]) {
                    t.spilled[k][q] = pond[k] - c[k];
                    pond[k] = c[k];
                }
            }
            t.back[q] = pond[1] > m ? pond[1] - m : 0;
            int[] stood = {pond[0] - t.back[q], pond[1]};
            for (int k = 0; k < 2; k++) {
                int goes = o[k][q] * g[k];
                if (goes > pond[k]) {
                    goes = pond[k];
                }
                t.through[k][q] = goes;
                t.ground[k][q] = stood[k] >= f[k] ? goes : 0;
                pond[k] -= goes;
                t.level[k][q] = pond[k];
            }
            way = t.through[0][q];
        }
        t.way = way;
        return t;
    }

    Told day() {
        return day(opened(), begin[0], begin[1], 0);
    }

    // ---- best plans by memory ----

    /** Which mills are free, what each one's inches count for, up to which quarter; the other one opens by its plan. */
    final class Best {
        private final boolean[] free;
        private final int[] worth;
        private final int end;
        private final int[] known;
        final int[][] first = new int[2][96];

        Best(boolean[] free, int[] worth, int end) {
            this.free = free;
            this.worth = worth;
            this.end = end;
            known = new int[96 * (c[0] + 1) * (c[1] + 1) * 13];
        }

        private int widest(int mill, int q) {
            return free[mill] ? may(mill, q) ? 3 : 0 : opens(mill, q);
        }

        private int narrowest(int mill, int q) {
            return free[mill] ? 0 : opens(mill, q);
        }

        int most() {
            return from(0, begin[0], begin[1], 0);
        }

        private int from(int q, int u, int l, int way) {
            if (q == end) {
                return 0;
            }
            int key = ((q * (c[0] + 1) + u) * (c[1] + 1) + l) * 13 + way;
            if (known[key] == 0) {
                known[key] = (seek(q, u, l, way) >> 4) + 1;
            }
            return known[key] - 1;
        }

        /** The most, times 16, and the first pair of openings that has it. */
        private int seek(int q, int u, int l, int way) {
            int inUpper = Math.min(c[0], u + come[q]);
            int inLower = Math.min(c[1], l + way);
            boolean upperGrinds = inUpper - Math.max(0, inLower - m) >= f[0];
            boolean lowerGrinds = inLower >= f[1];
            int best = -1;
            int pair = 0;
            for (int a = narrowest(0, q); a <= widest(0, q); a++) {
                int x = Math.min(inUpper, a * g[0]);
                for (int b = narrowest(1, q); b <= widest(1, q); b++) {
                    int y = Math.min(inLower, b * g[1]);
                    int now = (upperGrinds ? x * worth[0] : 0) + (lowerGrinds ? y * worth[1] : 0);
                    int all = now + from(q + 1, inUpper - x, inLower - y, x);
                    if (all > best) {
                        best = all;
                        pair = a * 4 + b;
                    }
                }
            }
            return best * 16 + pair;
        }

        Best walked() {
            int u = begin[0];
            int l = begin[1];
            int way = 0;
            for (int q = 0; q < 96; q++) {
                int pair = seek(q, u, l, way) & 15;
                first[0][q] = pair / 4;
                first[1][q] = pair % 4;
                int inUpper = Math.min(c[0], u + come[q]);
                int inLower = Math.min(c[1], l + way);
                way = Math.min(inUpper, pair / 4 * g[0]);
                u = inUpper - way;
                l = inLower - Math.min(inLower, pair % 4 * g[1]);
            }
            return this;
        }
    }

    Best both(int a, int b) {
        return new Best(new boolean[] {true, true}, new int[] {a, b}, 96);
    }

    Best replyUpTo(int mill, int end) {
        return new Best(new boolean[] {mill == 0, mill == 1}, new int[] {1 - mill, mill}, end);
    }

    int would(int mill) {
        return replyUpTo(mill, 96).most();
    }

    int reply(int mill) {
        Best best = replyUpTo(mill, 96).walked();
        System.arraycopy(best.first[mill], 0, plan[mill], 0, 96);
        return day().ground(mill);
    }

    int alone(int mill) {
        int[] kept = plan[1 - mill].clone();
        Arrays.fill(plan[1 - mill], 0);
        int most = would(mill);
        System.arraycopy(kept, 0, plan[1 - mill], 0, 96);
        return most;
    }

    int soonest(int mill, int inches) {
        for (int q = 0; q < 96; q++) {
            if (replyUpTo(mill, q + 1).most() >= inches) {
                return q;
            }
        }
        return -1;
    }

    int togetherWithMark(int mark) {
        int kept = m;
        m = mark;
        int most = both(1, 1).most();
        m = kept;
        return most;
    }

    /** The upper pond alone, so much always off its fall. */
    private int mostWithBack(int back) {
        int[] next = new int[c[0] + 1];
        for (int q = 95; q >= 0; q--) {
            int[] now = new int[c[0] + 1];
            for (int u = 0; u <= c[0]; u++) {
                int in = Math.min(c[0], u + come[q]);
                for (int o = 0; o <= (may(0, q) ? 3 : 0); o++) {
                    int x = Math.min(in, o * g[0]);
                    now[u] = Math.max(now[u], (in - back >= f[0] ? x : 0) + next[in - x]);
                }
            }
            next = now;
        }
        return next[begin[0]];
    }

    int harmless() {
        int found = -1;
        for (int high = 0; high <= 40; high++) {
            if (mostWithBack(Math.max(0, high - m)) == mostWithBack(0)) {
                found = high;
            }
        }
        return found;
    }

    /** {answer, turns}; rests are asked ahead of each turn, rounds ahead of the upper one's. */
    int[] play() {
        java.util.List<String> seen = new java.util.ArrayList<>();
        for (int turn = 0; turn <= 24; turn++) {
            Told now = day();
            if (would(0) <= now.ground(0) && would(1) <= now.ground(1)) {
                return new int[] {1, turn};
            }
            if (turn % 2 == 0) {
                String plans = Arrays.toString(plan[0]) + Arrays.toString(plan[1]);
                if (seen.contains(plans)) {
                    return new int[] {2, turn};
                }
                seen.add(plans);
            }
            if (turn < 24) {
                reply(turn % 2);
            }
        }
        return new int[] {0, 24};
    }

    // ---- the rest ----

    int[] cart(int upper, int lower) {
        int cost = -1;
        int bits = -1;
        for (int way = 0; way < 1 << ovens; way++) {
            int[] sold = new int[2];
            int sum = 0;
            for (int k = 0; k < ovens; k++) {
                int of = way >> k & 1;
                sold[of] += oven[k][0];
                sum += oven[k][0] * oven[k][1 + of];
            }
            if (sold[0] <= upper && sold[1] <= lower && (cost < 0 || sum < cost)) {
                cost = sum;
                bits = way;
            }
        }
        return new int[] {cost, bits};
    }

    /** {ways, first, sure}; heights below 0 are not told. */
    int[] explain(int[] heights) {
        int ways = 0;
        int first = -1;
        int[] seen = new int[6];
        int[][] o = opened();
        for (int code = 0; code < 4096; code++) {
            for (int q = 0; q < 24; q++) {
                o[0][q] = may(0, q) ? digit(code, q / 4) : 0;
            }
            Told t = day(o, begin[0], begin[1], 0);
            boolean fits = true;
            for (int q = 0; q < 24; q++) {
                fits &= heights[q] < 0 || heights[q] == t.level[1][q];
            }
            if (fits) {
                first = ways == 0 ? code : first;
                ways++;
                for (int h = 0; h < 6; h++) {
                    seen[h] |= 1 << digit(code, h);
                }
            }
        }
        int sure = 0;
        for (int h = 0; h < 6; h++) {
            sure |= Integer.bitCount(seen[h]) == 1 ? 1 << h : 0;
        }
        return new int[] {ways, first, sure};
    }

    static int digit(int code, int hour) {
        return code / (int) Math.pow(4, 5 - hour) % 4;
    }

    int eel(int mill, int e, int seed) {
        int[][] o = opened();
        long s = seed & 0xffffffffL;
        for (int q = 0; q < 96; q++) {
            for (int k = 0; k < 2; k++) {
                if (o[k][q] > 0) {
                    s = (s * 1103515245L + 12345L) % (1L << 32);
                    o[k][q] -= s / 65536 % 8 < e ? 1 : 0;
                }
            }
        }
        return day(o, begin[0], begin[1], 0).ground(mill);
    }

    int blame(int mill, int hour) {
        int[][] o = opened();
        Arrays.fill(o[mill], 4 * hour, 4 * hour + 4, 0);
        return day(o, begin[0], begin[1], 0).ground(1 - mill) - day().ground(1 - mill);
    }

    /** {ground in all, level at the end, the first day that grinds as the one ahead}. */
    int[] later(int mill, int n) {
        int[] grounds = new int[n];
        int u = begin[0];
        int l = begin[1];
        int way = 0;
        int alike = -1;
        for (int d = 0; d < n; d++) {
            Told t = day(opened(), u, l, way);
            grounds[d] = t.ground(mill);
            u = t.level[0][95];
            l = t.level[1][95];
            way = t.way;
            if (d > 0 && alike < 0 && grounds[d] == grounds[d - 1]) {
                alike = d;
            }
        }
        return new int[] {Told.sum(grounds), mill == 0 ? u : l, alike};
    }

    int dry(int mill) {
        StringBuilder row = new StringBuilder();
        for (int x : day().level[mill]) {
            row.append(x == 0 ? 'd' : 'w');
        }
        int longest = 0;
        for (String dry : row.toString().split("w")) {
            longest = Math.max(longest, dry.length());
        }
        return longest;
    }

    int half(int mill) {
        Told t = day();
        int all = t.ground(mill);
        for (int hour = 0; hour < 24 && all > 0; hour++) {
            if (2 * Told.sum(Arrays.copyOf(t.ground[mill], 4 * hour + 4)) >= all) {
                return hour;
            }
        }
        return -1;
    }
}
