import java.lang.reflect.InvocationTargetException;
import java.lang.reflect.Method;
import java.lang.reflect.Modifier;
import java.util.Arrays;
import java.util.NoSuchElementException;
import java.util.Set;
import java.util.TreeSet;

/**
 * Every call of the face with each of its arguments just inside, just outside and far outside of what the document allows:
 * it throws what is due and nothing else, IndexOutOfBoundsException ahead of others; a refusal is counted once and changes
 * nothing.
 */
public final class RefusalTest {
    /** Of each argument: M a mill, Q a quarter, O an oven, F free, or the least and the most that are no wrong argument. */
    private static final String[] CALLS = {
        "feed F F F F F", "mills 0-20", "fault", "mill M 0-5", "told 0-5", "river Q", "oven O 0-2", "plan M 0-23 0-3",
        "set M Q 0-3", "open M Q", "level M Q", "day M 0-5", "water 0-5", "back Q", "together", "best M Q", "take", "alone M",
        "reply M", "would M", "play", "rounds", "lost", "share M", "hand", "harmless", "cart 0-99 0-99 0-1",
        "weed 0-23 0-99", "clear", "explain 0-2", "eel M 0-8 F", "weighed 0-9 0-9 0-2", "pays M", "soonest M 1-9999",
        "blame M 0-23", "later M 1-30 0-2", "dry M", "marked 0-40", "half M", "image", "restore", "status F", "count F",
    };

    private RefusalTest() {
    }

    public static void main(String[] args) throws ReflectiveOperationException {
        Set<String> named = new TreeSet<>();
        for (String line : CALLS) {
            String[] words = line.split(" ");
            Method call = methodOf(words);
            named.add(call.toString());
            tryAll(call, words, new int[words.length - 1], 0);
        }
        for (Method call : RivalMills.class.getDeclaredMethods()) {
            if (Modifier.isPublic(call.getModifiers())) {
                Due.is(call + " is among them", named.contains(call.toString()));
            }
        }
        Due.end();
    }

    private static Method methodOf(String[] words) throws ReflectiveOperationException {
        Class<?>[] types = new Class<?>[words.length - 1];
        Arrays.fill(types, int.class);
        return RivalMills.class.getMethod(words[0], types);
    }

    private static int least(String kind) {
        return kind.contains("-") ? Integer.parseInt(kind.split("-")[0]) : 0;
    }

    private static int most(String kind) {
        switch (kind) {
            case "M": return 1;
            case "Q": return 95;
            case "O": return 1;
            default: return Integer.parseInt(kind.split("-")[1]);
        }
    }

    private static int[] tried(String kind) {
        if (kind.equals("F")) {
            return new int[] {Integer.MIN_VALUE, 0, Integer.MAX_VALUE};
        }
        int least = least(kind);
        int most = most(kind);
        return new int[] {Integer.MIN_VALUE, least - 1, least, most, most + 1, Integer.MAX_VALUE};
    }

    private static void tryAll(Method call, String[] words, int[] arguments, int place) throws ReflectiveOperationException {
        if (place == arguments.length) {
            tryOne(call, words, arguments);
            return;
        }
        for (int number : tried(words[place + 1])) {
            arguments[place] = number;
            tryAll(call, words, arguments, place + 1);
        }
    }

    /** Which of the three refusals is due; -1 without. */
    private static int due(String[] words, int[] arguments) {
        boolean[] wrong = new boolean[3];
        for (int k = 0; k < arguments.length; k++) {
            String kind = words[k + 1];
            if (!kind.equals("F") && (arguments[k] < least(kind) || arguments[k] > most(kind))) {
                wrong[kind.equals("M") || kind.equals("Q") ? 0 : kind.equals("O") ? 1 : 2] = true;
            }
        }
        return wrong[0] ? 0 : wrong[1] ? 1 : wrong[2] ? 2 : -1;
    }

    private static void tryOne(Method call, String[] words, int[] arguments) throws ReflectiveOperationException {
        String shown = call.getName() + Arrays.toString(arguments);
        int due = due(words, arguments);
        Class<?>[] kinds = {IndexOutOfBoundsException.class, NoSuchElementException.class, IllegalArgumentException.class};
        RivalMills x = used();
        String ahead = stateOf(x);
        Class<?> thrown = null;
        try {
            call.invoke(x, Arrays.stream(arguments).boxed().toArray());
        } catch (InvocationTargetException e) {
            thrown = e.getCause().getClass();
        }
        Due.is(shown + " throws " + thrown, thrown == (due < 0 ? null : kinds[due]));
        for (int what = 0; what < 3; what++) {
            Due.is(shown + " status(" + what + ")", x.status(what), what == due ? 1 : 0);
        }
        if (due >= 0) {
            Due.is(shown + " changes nothing", stateOf(x).equals(ahead));
        }
    }

    private static RivalMills used() {
        RivalMills x = Due.of("river 3 5;upper 9 3 2;lower 8 2 3;begin 6 4;back 3;oven 1 2 3;oven 4 5 6;hours 1 2 22;ice 5 6;");
        x.plan(0, 4, 3);
        x.set(1, 40, 2);
        x.weed(3, 4);
        x.image();
        x.plan(0, 7, 1);
        x.feed(0x20202020, 0x20202020, 0x20202020, 0x20202020, 0x20202020);
        return x;
    }

    private static String stateOf(RivalMills x) {
        StringBuilder state = new StringBuilder();
        for (int q = 0; q < 96; q++) {
            state.append(x.river(q)).append(x.open(0, q)).append(x.open(1, q)).append(' ');
        }
        for (int what = 0; what < 6; what++) {
            state.append(x.mill(0, what)).append(' ').append(x.mill(1, what)).append(' ').append(x.told(what)).append(' ');
        }
        state.append(x.count(0)).append(' ').append(x.count(1)).append(' ').append(x.fault()).append(' ').append(x.rounds());
        state.append(' ').append(x.explain(0)).append(' ').append(x.explain(1)).append(' ').append(x.explain(2));
        return state.toString();
    }
}
