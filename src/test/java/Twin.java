import java.util.ArrayDeque;
import java.util.ArrayList;
import java.util.Arrays;
import java.util.Deque;
import java.util.HashMap;
import java.util.List;
import java.util.Map;
import java.util.regex.Matcher;
import java.util.regex.Pattern;

/**
 * The whole object told a second time, round the Model: tape, texts with faults, plans, weeds, images, refusals. A text is
 * cut into tokens first and held against a table of ranges, not read byte by byte as in the class.
 */
final class Twin {
    static final String OUT = "throws IndexOutOfBoundsException";
    static final String NO_SUCH = "throws NoSuchElementException";
    static final String ILLEGAL = "throws IllegalArgumentException";

    private static final Pattern TOKEN = Pattern.compile("[a-z]+|[0-9]+|;|[^ ]");
    private static final Map<String, int[][]> RANGES = Map.of(
        "river", new int[][] {{0, 23}, {0, 9}},
        "upper", new int[][] {{1, 40}, {0, 40}, {1, 4}},
        "lower", new int[][] {{1, 40}, {0, 40}, {1, 4}},
        "begin", new int[][] {{0, 40}, {0, 40}},
        "back", new int[][] {{0, 40}},
        "sack", new int[][] {{1, 99}},
        "hours", new int[][] {{0, 1}, {0, 23}, {0, 23}},
        "ice", new int[][] {{0, 23}, {0, 23}},
        "oven", new int[][] {{1, 9}, {0, 99}, {0, 99}});

    private record Token(String text, int place) {
    }

    private record Image(int[][] plan, int[] heights) {
    }

    private Model model = new Model();
    private String tape = "";
    private int faultPlace = -1;
    private int turns = 0;
    private int[] heights = new int[24];
    private final Deque<Image> images = new ArrayDeque<>();
    private final int[] refused = new int[3];
    /** Best plans do not depend on the plans: each is sought once for a text. */
    private final Map<String, Model.Best> found = new HashMap<>();

    Twin() {
        Arrays.fill(heights, -1);
    }

    int taped() {
        return tape.length();
    }

    int ovens() {
        return model.ovens;
    }

    int lowerStands(int quarter) {
        return model.day().level[1][quarter];
    }

    /** The answer to a call whose arguments were looked at already: none is wrong, but for mills() and oven(). */
    String answer(String call, int[] a, String wrong) {
        if (wrong == null && call.equals("mills") && (a[0] < 0 || a[0] > tape.length())) {
            return refuse(ILLEGAL);
        }
        if (call.equals("oven") && (a[0] < 0 || a[0] >= model.ovens)) {
            return refuse(NO_SUCH);
        }
        return wrong != null ? refuse(wrong) : String.valueOf(number(call, a));
    }

    private String refuse(String how) {
        refused[List.of(OUT, NO_SUCH, ILLEGAL).indexOf(how)]++;
        return how;
    }

    private int number(String call, int[] a) {
        switch (call) {
            case "feed": return feed(a);
            case "mills": return mills(a[0]);
            case "fault": return faultPlace;
            case "mill": return millNumbers(a[0])[a[1]];
            case "told": return new int[] {model.m, model.sack, model.ovens, model.iceFrom, model.iceTo, weeds()}[a[0]];
            case "river": return model.come[a[0]];
            case "oven": return model.oven[a[0]][a[1]];
            case "plan": return plan(a[0], 4 * a[1], 4, a[2]);
            case "set": return plan(a[0], a[1], 1, a[2]);
            case "rounds": return turns;
            case "weed": return weed(a[0], a[1]);
            case "clear": return clear();
            case "image": return image();
            case "restore": return restore();
            case "status": return a[0] >= 0 && a[0] < 3 ? refused[a[0]] : -1;
            case "count": return a[0] == 0 ? images.size() : a[0] == 1 ? tape.length() : -1;
            default: return byPlans(call, a);
        }
    }

    private int byPlans(String call, int[] a) {
        switch (call) {
            case "open": return model.opens(a[0], a[1]);
            case "level": return model.day().level[a[0]][a[1]];
            case "day": return dayNumbers(a[0])[a[1]];
            case "water": return waters()[a[0]];
            case "back": return model.day().back[a[0]];
            case "cart": return model.cart(a[0], a[1])[a[2]];
            case "explain": return model.explain(heights)[a[0]];
            case "eel": return model.eel(a[0], a[1], a[2]);
            case "blame": return model.blame(a[0], a[1]);
            case "later": return model.later(a[0], a[1])[a[2]];
            case "dry": return model.dry(a[0]);
            case "half": return model.half(a[0]);
            default: return best(call, a);
        }
    }

    private int best(String call, int[] a) {
        switch (call) {
            case "together": return both(1, 1).most();
            case "best": return both(1, 1).first[a[0]][a[1]];
            case "take": return take();
            case "alone": return model.alone(a[0]);
            case "reply": return model.reply(a[0]);
            case "would": return model.would(a[0]);
            case "play": return play();
            case "lost": return both(1, 1).most() - model.day().ground(0) - model.day().ground(1);
            case "share": return share(a[0]);
            case "hand": return model.alone(0) > model.alone(1) ? 0 : model.alone(0) < model.alone(1) ? 1 : 2;
            case "harmless": return model.harmless();
            case "weighed": return a[2] == 0 ? both(a[0], a[1]).most() : groundBy(both(a[0], a[1]), a[2] - 1);
            case "pays": return 2 * groundBy(both(1, 1), a[0]) - share(a[0]);
            case "soonest": return a[1] > model.would(a[0]) ? -1 : model.soonest(a[0], a[1]);
            case "marked": return both(1, 1).most() - model.togetherWithMark(a[0]);
            default: throw new IllegalStateException(call);
        }
    }

    // ---- tape and text ----

    private int feed(int[] five) {
        if (tape.length() > 480) {
            return -1;
        }
        for (int number : five) {
            for (int k = 3; k >= 0; k--) {
                tape += (char) (number >> 8 * k & 255);
            }
        }
        return tape.length();
    }

    private int mills(int n) {
        String text = tape.substring(0, n);
        tape = "";
        faultPlace = -1;
        Model told = new Model();
        int fault = read(text, told);
        if (fault != 0) {
            return fault - 10;
        }
        model = told;
        turns = 0;
        images.clear();
        found.clear();
        Arrays.fill(heights, -1);
        return model.ovens;
    }

    private int fault(int kind, int place) {
        faultPlace = place;
        return kind;
    }

    private static List<Token> tokensOf(String text) {
        List<Token> tokens = new ArrayList<>();
        Matcher next = TOKEN.matcher(text);
        while (next.find()) {
            tokens.add(new Token(next.group(), next.start()));
        }
        return tokens;
    }

    private int read(String text, Model told) {
        List<Token> tokens = tokensOf(text);
        Token end = new Token("", text.length());
        int[] river = new int[24];
        Arrays.fill(river, -1);
        int at = 0;
        for (int clauses = 0; at < tokens.size(); clauses++) {
            Token word = tokens.get(at++);
            int[][] ranges = RANGES.get(word.text);
            if (ranges == null) {
                return fault(1, word.place);
            }
            if (clauses == 60 || word.text.equals("oven") && told.ovens == 8) {
                return fault(3, word.place);
            }
            int[] numbers = new int[ranges.length];
            for (int k = 0; k < ranges.length; k++, at++) {
                Token token = at < tokens.size() ? tokens.get(at) : end;
                if (!token.text.matches("[0-9]+")) {
                    return fault(1, token.place);
                }
                java.math.BigInteger whole = new java.math.BigInteger(token.text);
                numbers[k] = whole.bitLength() > 20 ? 1 << 20 : whole.intValue();
                boolean span = (word.text.equals("hours") || word.text.equals("ice")) && k == ranges.length - 1;
                int least = span ? numbers[k - 1] : ranges[k][0];
                if (numbers[k] < least || numbers[k] > ranges[k][1]) {
                    return fault(2, token.place);
                }
            }
            Token stop = at < tokens.size() ? tokens.get(at++) : end;
            if (!stop.text.equals(";")) {
                return fault(1, stop.place);
            }
            clause(told, word.text, numbers, river);
        }
        comes(told, river);
        boolean tooFull = told.begin[0] > told.c[0] || told.begin[1] > told.c[1];
        return tooFull ? fault(4, text.length()) : 0;
    }

    private static void clause(Model told, String word, int[] n, int[] river) {
        switch (word) {
            case "river": river[n[0]] = n[1]; break;
            case "upper": case "lower":
                int mill = word.equals("lower") ? 1 : 0;
                told.c[mill] = n[0];
                told.f[mill] = n[1];
                told.g[mill] = n[2];
                break;
            case "begin": System.arraycopy(n, 0, told.begin, 0, 2); break;
            case "back": told.m = n[0]; break;
            case "sack": told.sack = n[0]; break;
            case "hours":
                told.from[n[0]] = n[1];
                told.to[n[0]] = n[2];
                break;
            case "ice":
                told.iceFrom = n[0];
                told.iceTo = n[1];
                break;
            default: System.arraycopy(n, 0, told.oven[told.ovens++], 0, 3);
        }
    }

    private static void comes(Model told, int[] river) {
        boolean any = Arrays.stream(river).anyMatch(q -> q >= 0);
        for (int q = 0; q < 96; q++) {
            int latest = any ? 0 : 2;
            for (int hour = 0; hour <= q / 4; hour++) {
                latest = river[hour] >= 0 ? river[hour] : latest;
            }
            boolean frozen = told.iceFrom >= 0 && q / 4 >= told.iceFrom && q / 4 <= told.iceTo;
            told.come[q] = frozen ? 0 : latest;
        }
    }

    // ---- what is kept ----

    private int[] millNumbers(int k) {
        return new int[] {model.c[k], model.f[k], model.g[k], model.begin[k], model.from[k], model.to[k]};
    }

    private int plan(int mill, int first, int quarters, int opening) {
        int ahead = model.plan[mill][first];
        Arrays.fill(model.plan[mill], first, first + quarters, opening);
        return ahead;
    }

    private int weeds() {
        return (int) Arrays.stream(heights).filter(h -> h >= 0).count();
    }

    private int weed(int quarter, int inches) {
        if (weeds() == 12 || heights[quarter] >= 0) {
            return -1;
        }
        heights[quarter] = inches;
        return weeds();
    }

    private int clear() {
        int gone = weeds();
        Arrays.fill(heights, -1);
        return gone;
    }

    private int image() {
        if (images.size() == 3) {
            return -1;
        }
        images.push(new Image(new int[][] {model.plan[0].clone(), model.plan[1].clone()}, heights.clone()));
        return images.size();
    }

    private int restore() {
        if (images.isEmpty()) {
            return -1;
        }
        Image latest = images.pop();
        System.arraycopy(latest.plan[0], 0, model.plan[0], 0, 96);
        System.arraycopy(latest.plan[1], 0, model.plan[1], 0, 96);
        heights = latest.heights;
        return images.size();
    }

    // ---- what follows ----

    private int[] dayNumbers(int k) {
        Model.Told t = model.day();
        int ground = t.ground(k);
        int through = Model.Told.sum(t.through[k]);
        int quarters = (int) Arrays.stream(t.ground[k]).filter(inches -> inches > 0).count();
        return new int[] {ground, through, through - ground, Model.Told.sum(t.spilled[k]), ground / model.sack, quarters};
    }

    private int[] waters() {
        Model.Told t = model.day();
        int spilled = Model.Told.sum(t.spilled[0]) + Model.Told.sum(t.spilled[1]);
        int first = model.begin[0] + model.begin[1];
        int gone = Model.Told.sum(t.through[1]);
        return new int[] {Model.Told.sum(model.come), first, spilled, gone, t.level[0][95] + t.level[1][95], t.way};
    }

    private Model.Best both(int a, int b) {
        return found.computeIfAbsent(a + " " + b, key -> model.both(a, b).walked());
    }

    private int groundBy(Model.Best best, int mill) {
        return model.day(best.first, model.begin[0], model.begin[1], 0).ground(mill);
    }

    private int take() {
        System.arraycopy(both(1, 1).first[0], 0, model.plan[0], 0, 96);
        System.arraycopy(both(1, 1).first[1], 0, model.plan[1], 0, 96);
        return both(1, 1).most();
    }

    private int share(int mill) {
        return model.alone(mill) + both(1, 1).most() - model.alone(1 - mill);
    }

    private int play() {
        int[] ended = model.play();
        turns = ended[1];
        return ended[0];
    }
}
