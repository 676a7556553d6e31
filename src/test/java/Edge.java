import java.io.IOException;
import java.nio.file.Files;
import java.nio.file.Path;
import java.util.Map;
import java.util.Set;
import java.util.TreeMap;
import java.util.TreeSet;

/** Edges, each asked under the document's own words that name it: if they no longer stand there, the test fails. */
final class Edge {
    interface Asked {
        void go();
    }

    private static final String[] TERMS = {
        "MILLS", "FAULTS", "DAY", "TOGETHER", "ALONE", "REPLY", "PLAY", "SHARE", "HARMLESS", "CARTING", "WEEDS", "EEL",
        "WEIGHED", "PAYS", "SOONEST", "BLAME", "LATER", "DRY", "MARKED", "HALF",
    };
    private static final int PROMISES = 44;

    private static final Map<String, String> SECTIONS = new TreeMap<>();
    private static final Set<String> ASKED = new TreeSet<>();

    private Edge() {
    }

    static void read(Path document) throws IOException {
        for (String part : Files.readString(document).split("\n## ")) {
            String head = part.split("[:\n]", 2)[0];
            SECTIONS.put(head, part.replaceAll("\\s+", " "));
        }
    }

    /** An edge of a promise, whose words stand in its own section. */
    static void of(int promise, String words, Asked asked) {
        ask("Promise " + promise, "Promise " + promise, words, asked);
    }

    /** An edge of a term. */
    static void of(String term, String words, Asked asked) {
        ask(term, "Terms", words, asked);
    }

    /** An edge of another part of the document. */
    static void ofPart(String part, String words, Asked asked) {
        ask(part, part, words, asked);
    }

    private static void ask(String name, String section, String words, Asked asked) {
        Due.under(name + " '" + words + "'");
        Due.is("the words stand in the document", SECTIONS.getOrDefault(section, "").contains(words));
        ASKED.add(name);
        asked.go();
        Due.under("");
    }

    static void allAreAsked() {
        for (int promise = 1; promise <= PROMISES; promise++) {
            Due.is("promise " + promise + " has an edge", ASKED.contains("Promise " + promise));
        }
        for (String term : TERMS) {
            Due.is(term + " has an edge", ASKED.contains(term));
        }
    }
}
