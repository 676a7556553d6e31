import java.lang.reflect.InvocationTargetException;
import java.lang.reflect.Method;
import java.nio.charset.StandardCharsets;
import java.util.ArrayList;
import java.util.Arrays;
import java.util.List;
import java.util.Random;

/**
 * Long runs of calls in drawn order on one object, each answer against the Twin's: what one call leaves behind must not
 * show in another one's answer. With an argument: runs of another seed, so many.
 */
public final class RunTest {
    /** As in RefusalTest; the number ahead tells how often a call is drawn. */
    private static final String[] CALLS = {
        "1 feed F F F F F", "1 mills 0-500", "3 fault", "4 mill M 0-5", "4 told 0-5", "3 river Q", "3 oven O 0-2",
        "40 plan M 0-23 0-3", "20 set M Q 0-3", "6 open M Q", "8 level M Q", "8 day M 0-5", "6 water 0-5", "5 back Q",
        "2 together", "4 best M Q", "1 take", "2 alone M", "2 reply M", "2 would M", "1 play", "3 rounds", "2 lost",
        "1 share M", "1 hand", "2 harmless", "6 cart 0-99 0-99 0-1", "30 weed 0-23 0-99", "1 clear", "4 explain 0-2",
        "6 eel M 0-8 F", "2 weighed 0-9 0-9 0-2", "2 pays M", "1 soonest M 1-9999", "5 blame M 0-23", "5 later M 1-30 0-2",
        "4 dry M", "1 marked 0-40", "4 half M", "8 image", "6 restore", "3 status F", "3 count F",
    };

    private static final String[] WORDS = {"river", "upper", "lower", "begin", "back", "sack", "hours", "ice", "oven"};
    private static final String[] LEASTS = {"0 0", "1 0 1", "1 0 1", "0 0", "0", "1", "0 0 0", "0 0", "1 0 0"};
    private static final String[] MOSTS = {"23 9", "40 40 4", "40 40 4", "40 40", "40", "99", "1 23 23", "23 23", "9 99 99"};

    private final Random dice;
    private final RivalMills x = new RivalMills();
    private final Twin y = new Twin();
    private final List<String> drawn = new ArrayList<>();
    private final StringBuilder calls = new StringBuilder();
    private boolean same = true;

    private RunTest(long seed) {
        dice = new Random(seed);
        for (String line : CALLS) {
            int times = Integer.parseInt(line.split(" ")[0]);
            for (int k = 0; k < times; k++) {
                drawn.add(line.substring(line.indexOf(' ') + 1));
            }
        }
    }

    public static void main(String[] args) throws ReflectiveOperationException {
        long seed = args.length > 0 ? Long.parseLong(args[0]) : 20261118L;
        int runs = args.length > 1 ? Integer.parseInt(args[1]) : 60;
        for (int k = 0; k < runs; k++) {
            new RunTest(seed + k).go(seed + k);
        }
        Due.end();
    }

    private void go(long seed) throws ReflectiveOperationException {
        for (int made = 0; made < 400 && same;) {
            int kind = dice.nextInt(100);
            if (kind == 0) {
                made += tell(faulty(text(8)));
            } else if (kind == 1 || made == 0) {
                made += tell(text(dice.nextInt(9) == 0 ? 40 : 9));
                made += openMuch();
            } else {
                one(drawn.get(dice.nextInt(drawn.size())));
                made++;
            }
        }
        if (!same) {
            System.out.println("run of seed " + seed + ": " + calls);
        }
    }

    private int openMuch() throws ReflectiveOperationException {
        int times = dice.nextInt(24);
        for (int k = 0; k < times; k++) {
            one("plan M 0-23 0-3");
        }
        return times;
    }

    // ---- one call ----

    private void one(String line) throws ReflectiveOperationException {
        String[] words = line.split(" ");
        int[] arguments = new int[words.length - 1];
        for (int k = 0; k < arguments.length; k++) {
            arguments[k] = argument(words[0], words[k + 1]);
        }
        // Weeds that tell what the plans do can be explained.
        if (words[0].equals("weed") && arguments[0] >= 0 && arguments[0] < 24 && dice.nextInt(20) != 0) {
            arguments[1] = y.lowerStands(arguments[0]);
        }
        ask(words, arguments);
    }

    private void ask(String[] words, int[] arguments) throws ReflectiveOperationException {
        String due = y.answer(words[0], arguments, wrong(words, arguments));
        Class<?>[] types = new Class<?>[arguments.length];
        Arrays.fill(types, int.class);
        Method call = RivalMills.class.getMethod(words[0], types);
        String got;
        try {
            got = String.valueOf(call.invoke(x, Arrays.stream(arguments).boxed().toArray()));
        } catch (InvocationTargetException e) {
            got = "throws " + e.getCause().getClass().getSimpleName();
        }
        String shown = words[0] + Arrays.toString(arguments);
        calls.append(shown).append(" = ").append(got).append("; ");
        same &= got.equals(due);
        Due.is(shown + " answered " + got + ", due is " + due + ": that", got.equals(due));
    }

    private int most(String kind) {
        return kind.equals("M") ? 1 : kind.equals("Q") ? 95 : kind.equals("O") ? y.ovens() : Integer.parseInt(kind.split("-")[1]);
    }

    private int least(String kind) {
        return kind.contains("-") ? Integer.parseInt(kind.split("-")[0]) : 0;
    }

    private int argument(String call, String kind) {
        int die = dice.nextInt(40);
        if (kind.equals("F")) {
            return call.equals("status") || call.equals("count") ? dice.nextInt(6) - 1 : dice.nextInt();
        }
        if (die == 0) {
            return new int[] {Integer.MIN_VALUE, Integer.MAX_VALUE, dice.nextInt()}[dice.nextInt(3)];
        }
        if (die == 1) {
            return dice.nextBoolean() ? least(kind) - 1 : most(kind) + 1;
        }
        int high = most(kind);
        if (call.equals("mills")) {
            return dice.nextInt(y.taped() + 2);
        }
        // Small numbers are the ones that tell something here.
        high = call.equals("soonest") && high == 9999 ? 150 : call.equals("weed") && high == 99 ? 6 : high;
        return least(kind) + dice.nextInt(high - least(kind) + 1);
    }

    private String wrong(String[] words, int[] arguments) {
        String worst = null;
        for (int k = 0; k < arguments.length; k++) {
            String kind = words[k + 1];
            boolean free = kind.equals("F") || kind.equals("O") || words[0].equals("mills");
            if (!free && (arguments[k] < least(kind) || arguments[k] > most(kind))) {
                boolean place = kind.equals("M") || kind.equals("Q");
                worst = place || Twin.OUT.equals(worst) ? Twin.OUT : Twin.ILLEGAL;
            }
        }
        return worst;
    }

    // ---- texts ----

    private int tell(String text) throws ReflectiveOperationException {
        byte[] bytes = text.getBytes(StandardCharsets.ISO_8859_1);
        int made = 0;
        int ahead = y.taped();
        for (int start = 0; start < bytes.length; start += 20) {
            int[] five = new int[5];
            for (int k = 0; k < 20; k++) {
                five[k / 4] = five[k / 4] << 8 | (start + k < bytes.length ? bytes[start + k] & 255 : ' ');
            }
            ask("feed F F F F F".split(" "), five);
            made++;
        }
        int n = dice.nextInt(12) == 0 ? dice.nextInt(y.taped() + 1) : Math.min(ahead + bytes.length, y.taped());
        ask("mills 0-500".split(" "), new int[] {n});
        ask(new String[] {"fault"}, new int[0]);
        return made + 2;
    }

    private String blanks() {
        return " ".repeat(dice.nextInt(4) == 0 ? dice.nextInt(3) : 0);
    }

    private String text(int deepest) {
        StringBuilder text = new StringBuilder();
        int clauses = dice.nextInt(25) == 0 ? 58 + dice.nextInt(5) : dice.nextInt(12);
        if (clauses < 58) {
            int upper = 1 + dice.nextInt(deepest);
            int lower = 1 + dice.nextInt(deepest);
            text.append("upper " + upper + " " + dice.nextInt(upper + 1) + " " + (1 + dice.nextInt(4)) + ";");
            text.append("lower " + lower + " " + dice.nextInt(lower + 1) + " " + (1 + dice.nextInt(4)) + ";");
            text.append("begin " + dice.nextInt(upper + 1) + " " + dice.nextInt(lower + 1) + ";");
        }
        boolean wide = clauses < 58;
        for (int k = 0; k < clauses; k++) {
            String clause = wide ? clause() : dice.nextBoolean() ? "back " + dice.nextInt(10) + ";" : "ice 0 1;";
            text.append(clause);
        }
        return text.append(blanks()).toString();
    }

    private String clause() {
        int word = new int[] {0, 0, 4, 4, 5, 6, 7, 8, 8}[dice.nextInt(9)];
        StringBuilder clause = new StringBuilder(blanks()).append(WORDS[word]);
        String[] leasts = LEASTS[word].split(" ");
        String[] mosts = MOSTS[word].split(" ");
        int ahead = 0;
        for (int k = 0; k < leasts.length; k++) {
            boolean span = (word == 6 || word == 7) && k == leasts.length - 1;
            int least = span ? ahead : Integer.parseInt(leasts[k]);
            int most = word == 4 ? 12 : Integer.parseInt(mosts[k]);
            ahead = least + dice.nextInt(most - least + 1);
            clause.append(k > 0 || dice.nextBoolean() ? " " : "").append(blanks());
            clause.append(dice.nextInt(20) == 0 ? "00" : "").append(ahead);
        }
        return clause.append(blanks()).append(";").toString();
    }

    /** One to three bytes changed, put in or left out. */
    private String faulty(String text) {
        StringBuilder other = new StringBuilder(text);
        for (int times = 1 + dice.nextInt(3); times > 0 && other.length() > 0; times--) {
            int place = dice.nextInt(other.length());
            String signs = " ;0129ivx" + (char) 0 + (char) 233 + "-Zz{`/:";
            char sign = signs.charAt(dice.nextInt(signs.length()));
            switch (dice.nextInt(3)) {
                case 0: other.setCharAt(place, sign); break;
                case 1: other.insert(place, sign); break;
                default: other.deleteCharAt(place);
            }
        }
        return other.toString();
    }
}
