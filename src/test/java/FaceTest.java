import java.io.IOException;
import java.lang.reflect.Constructor;
import java.lang.reflect.Field;
import java.lang.reflect.Method;
import java.lang.reflect.Modifier;
import java.nio.file.Files;
import java.nio.file.Path;
import java.util.ArrayList;
import java.util.HashSet;
import java.util.List;
import java.util.Map;
import java.util.Set;
import java.util.TreeMap;
import java.util.TreeSet;
import java.util.regex.Matcher;
import java.util.regex.Pattern;

/** The public face is the document's and no more, and the source keeps to the rules of LANGUAGE.md that can be read off. */
public final class FaceTest {
    private static final String[] FACE = {
        "feed(int,int,int,int,int)", "mills(int) I", "fault()", "mill(int,int) OI", "told(int) I", "river(int) O",
        "oven(int,int) NI", "plan(int,int,int) OI", "set(int,int,int) OI", "open(int,int) O", "level(int,int) O",
        "day(int,int) OI", "water(int) I", "back(int) O", "together()", "best(int,int) O", "take()", "alone(int) O",
        "reply(int) O", "would(int) O", "play()", "rounds()", "lost()", "share(int) O", "hand()", "harmless()",
        "cart(int,int,int) I", "weed(int,int) I", "clear()", "explain(int) I", "eel(int,int,int) OI",
        "weighed(int,int,int) I", "pays(int) O", "soonest(int,int) OI", "blame(int,int) OI", "later(int,int,int) OI",
        "dry(int) O", "marked(int) I", "half(int) O", "image()", "restore()", "status(int)", "count(int)",
    };

    private static final String[] OUTSIDE = {
        "Exact(", "try ", "finally", "synchronized", "assert ", "->", "::", "System.out", "nanoTime", "Random", "HashMap",
        "float ", "double ", "getMessage", "String.format", "Stream", "Thread", "instanceof Object", "switch (\"",
    };

    private FaceTest() {
    }

    public static void main(String[] args) throws IOException {
        methods();
        others();
        nested();
        source();
        recursion();
        page();
        example();
        Due.end();
    }

    private static boolean nameOfFace(String name) {
        for (String line : FACE) {
            if (line.startsWith(name + "(")) {
                return true;
            }
        }
        return false;
    }

    private static String shown(Method m) {
        List<String> types = new ArrayList<>();
        for (Class<?> type : m.getParameterTypes()) {
            types.add(type.getSimpleName());
        }
        StringBuilder thrown = new StringBuilder();
        for (Class<?> type : m.getExceptionTypes()) {
            thrown.append(type == IndexOutOfBoundsException.class ? "O"
                : type == IllegalArgumentException.class ? "I"
                : type == java.util.NoSuchElementException.class ? "N" : "?");
        }
        String text = m.getName() + "(" + String.join(",", types) + ")";
        return thrown.length() == 0 ? text : text + " " + thrown;
    }

    private static void methods() {
        Set<String> due = new TreeSet<>(List.of(FACE));
        Set<String> got = new TreeSet<>();
        for (Method m : RivalMills.class.getDeclaredMethods()) {
            if (Modifier.isPrivate(m.getModifiers())) {
                Due.is("private " + m.getName() + " has a name of its own", !nameOfFace(m.getName()));
            } else {
                Due.is(m.getName() + " is public, an object's, and answers an int",
                    m.getModifiers() == Modifier.PUBLIC && m.getReturnType() == int.class);
                got.add(shown(m));
            }
        }
        Due.is("methods " + got + " are " + due, got.equals(due));
    }

    private static void others() {
        Due.is("the class is public and final", RivalMills.class.getModifiers() == (Modifier.PUBLIC | Modifier.FINAL));
        for (Field f : RivalMills.class.getDeclaredFields()) {
            if (f.getName().equals("NONE")) {
                Due.is("NONE is a public constant",
                    f.getModifiers() == (Modifier.PUBLIC | Modifier.STATIC | Modifier.FINAL));
            } else {
                Due.is(f.getName() + " is private", Modifier.isPrivate(f.getModifiers()));
            }
        }
        Constructor<?>[] made = RivalMills.class.getDeclaredConstructors();
        Due.is("constructors", made.length, 1);
        Due.is("the constructor is public", Modifier.isPublic(made[0].getModifiers()));
        Due.is("NONE", RivalMills.NONE, -1);
    }

    private static void nested() {
        Class<?>[] inside = RivalMills.class.getDeclaredClasses();
        Due.is("there are at most twelve classes", inside.length <= 12);
        for (Class<?> c : inside) {
            Due.is(c + " is static, neither public nor protected", Modifier.isStatic(c.getModifiers())
                && !Modifier.isPublic(c.getModifiers()) && !Modifier.isProtected(c.getModifiers()));
            Due.is(c + " has some twenty fields at most", fieldsOf(c) <= 20);
            for (Method m : c.getDeclaredMethods()) {
                Due.is(c + "." + m.getName() + " has a name of its own", !nameOfFace(m.getName()));
            }
        }
        Due.is("RivalMills has some twenty fields at most", fieldsOf(RivalMills.class) <= 20);
    }

    private static int fieldsOf(Class<?> c) {
        int own = 0;
        for (Field f : c.getDeclaredFields()) {
            boolean fixed = Modifier.isStatic(f.getModifiers());
            Due.is(c + "." + f.getName() + " is final if static", !fixed || Modifier.isFinal(f.getModifiers()));
            own += fixed ? 0 : 1;
        }
        return own;
    }

    private static void source() throws IOException {
        String text = Files.readString(Path.of("src/main/java/RivalMills.java"));
        for (String word : OUTSIDE) {
            Due.is("the source is without '" + word + "'", !text.contains(word));
        }
        int start = 0;
        int line = 0;
        for (String row : text.split("\n")) {
            line++;
            boolean opens = row.matches("    (    )?(private |public )?(static )?[\\w\\[\\]]+ \\w+\\(.*\\{");
            start = opens ? line : start;
            if (row.equals("    }") || row.equals("        }")) {
                Due.is("the method that ends in line " + line + " is short", start == 0 || line - start <= 60);
                start = 0;
            }
        }
    }

    private static void page() throws IOException {
        String page = Files.readString(Path.of("README.md"));
        for (String line : FACE) {
            String name = line.substring(0, line.indexOf('('));
            Due.is("README.md names " + name, page.contains("`" + name + "`"));
        }
        Due.is("README.md tells how its tests are run", page.contains(".ci/run"));
    }

    /** The lines of README.md's example, and what it says of their answers. */
    private static void example() throws IOException {
        String page = Files.readString(Path.of("README.md"));
        RivalMills x = new RivalMills();
        x.feed(0x6261636b, 0x20373b00, 0, 0, 0);
        said(page, "int ovens = x.mills(7);", x.mills(7), 0);
        Due.is("the text's mark", x.told(0), 7);
        Due.is("plan", x.plan(0, 6, 2), 0);
        said(page, "int ground = x.day(0, 0);", x.day(0, 0), 8);
        said(page, "int most = x.together();", x.together(), 405);
        Due.is("take", x.take(), 405);
        said(page, "int lost = x.lost();", x.lost(), 0);
    }

    private static void said(String page, String line, int got, int want) {
        String row = page.lines().filter(text -> text.startsWith(line)).findFirst().orElse("");
        Due.is("README.md has the line " + line + " and tells " + want, row.matches(".*\\b" + want + "\\b.*"));
        Due.is(line, got, want);
    }

    /** By names alone: where no name leads back to itself, no method calls itself, straight or by others (rule 8). */
    private static void recursion() throws IOException {
        Map<String, Set<String>> calls = callsByName(Files.readString(Path.of("src/main/java/RivalMills.java")));
        Due.is("the methods are found", calls.size() >= FACE.length);
        int deepest = 0;
        for (String name : calls.keySet()) {
            Set<String> met = new HashSet<>();
            met.addAll(calls.get(name));
            for (int round = 0; round < calls.size(); round++) {
                for (String other : List.copyOf(met)) {
                    met.addAll(calls.get(other));
                }
            }
            boolean free = !met.contains(name);
            Due.is(name + " does not come to call itself", free);
            deepest = Math.max(deepest, free ? depthOf(calls, name, 1) : 99);
        }
        Due.is("calls go at most eight deep, not " + deepest, deepest <= 8);
    }

    private static int depthOf(Map<String, Set<String>> calls, String name, int depth) {
        int deepest = depth;
        for (String other : calls.get(name)) {
            deepest = Math.max(deepest, depth > 20 ? depth : depthOf(calls, other, depth + 1));
        }
        return deepest;
    }

    private static Map<String, Set<String>> callsByName(String text) {
        Pattern head = Pattern.compile("    (?:    )?(?:private |public )?(?:static )?[\\w\\[\\]]+ (\\w+)\\(.*\\{");
        Pattern called = Pattern.compile("(\\w+\\.)?(\\w+)\\(");
        Map<String, Set<String>> calls = new TreeMap<>();
        String at = null;
        for (String row : text.split("\n")) {
            Matcher opens = head.matcher(row);
            if (opens.matches()) {
                at = opens.group(1);
                calls.computeIfAbsent(at, name -> new TreeSet<>());
            } else if (at != null && !row.trim().startsWith("/")) {
                Matcher found = called.matcher(row);
                while (found.find()) {
                    String owner = found.group(1);
                    if (owner == null || !owner.matches("(Math|Arrays|System|Integer)\\.")) {
                        calls.get(at).add(found.group(2));
                    }
                }
            }
        }
        for (Set<String> names : calls.values()) {
            names.retainAll(calls.keySet());
        }
        return calls;
    }
}
