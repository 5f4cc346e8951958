import java.io.IOException;
import java.nio.file.Files;
import java.nio.file.Path;
import java.util.Map;
import java.util.TreeMap;

/**
 * The edges that the document names: each test of one begins with the document's own words, and
 * all words of the promises and of the terms must have been begun with. So none goes untried, and
 * a document that says something else is seen.
 */
final class Edge {
    /** What stands in the place of a promise's number. */
    static final int WHAT_IT_IS = -1, TERMS = 0;

    private static final Path DOCUMENT = Path.of("../shared/DOC.md");
    private static final Map<Integer, String> SAID = new TreeMap<>();
    private static final Map<Integer, boolean[]> TRIED = new TreeMap<>();
    private static String now = "";
    private static int edges = 0;

    private Edge() {
    }

    /** Reads the document; where there is none, words aren't looked up. */
    static void begin() throws IOException {
        if (!Files.isReadable(DOCUMENT)) {
            System.out.println("no document at " + DOCUMENT + ": words are not looked up");
            return;
        }
        int section = WHAT_IT_IS - 1;
        for (String line : Files.readString(DOCUMENT).split("\n")) {
            if (line.startsWith("#")) {
                section = sectionOf(line);
            } else if (section >= WHAT_IT_IS && !line.startsWith("Ahead of the calls")) {
                SAID.merge(section, withoutMarks(line), (ahead, more) -> ahead + " " + more);
            }
        }
        for (int part : SAID.keySet()) {
            String said = SAID.get(part).replaceAll("\\s+", " ").trim();
            SAID.put(part, said);
            TRIED.put(part, new boolean[said.length()]);
        }
        Checks.due("34 promises, the terms, what it is", SAID.size(), 36);
    }

    private static int sectionOf(String heading) {
        if (heading.startsWith("## Promise ")) {
            return Integer.parseInt(heading.substring(11, heading.indexOf(':')));
        }
        return heading.equals("## Terms") ? TERMS : heading.equals("## What it is") ? WHAT_IT_IS : WHAT_IT_IS - 1;
    }

    /** The line without its signature, rules and fences. */
    private static String withoutMarks(String line) {
        return line.replaceAll("^`[^`]*\\)`: |^======== \\d |^```.*$", "");
    }

    /** What is due from here on is told by these words of a promise, or of the terms. */
    static void of(int part, String... words) {
        edges++;
        now = (part == TERMS ? "The terms" : part == WHAT_IT_IS ? "What it is" : "Promise " + part) + ", \"" + words[0] + "\": ";
        for (String some : words) {
            String said = SAID.get(part);
            if (said != null) {
                int at = untriedPlaceOf(some, said, TRIED.get(part));
                Checks.due("the document says \"" + some + "\" in part " + part, at >= 0);
                for (int i = Math.max(0, at); at >= 0 && i < at + some.length(); i++) {
                    TRIED.get(part)[i] = true;
                }
            }
        }
    }

    /** Words that stand there twice are two edges; the same place may be tried more than once. */
    private static int untriedPlaceOf(String words, String said, boolean[] tried) {
        int first = said.indexOf(words);
        for (int at = first; at >= 0; at = said.indexOf(words, at + 1)) {
            if (!tried[at]) {
                return at;
            }
        }
        return first;
    }

    static void due(String call, long got, long want) {
        Checks.due(now + call, got, want);
    }

    /** All words of the promises and the terms have been tried. */
    static void end() {
        for (int part : SAID.keySet()) {
            StringBuilder left = new StringBuilder();
            for (int i = 0; part != WHAT_IT_IS && i < SAID.get(part).length(); i++) {
                left.append(TRIED.get(part)[i] ? '|' : SAID.get(part).charAt(i));
            }
            String untried = left.toString().replaceAll("\\|+", "|").replaceAll("[^A-Za-z0-9|]+", " ").replaceAll("\\|( ?\\|)*", "|");
            Checks.due("part " + part + " has no test of: " + untried, untried.equals("|") || part == WHAT_IT_IS);
        }
        System.out.println(edges + " edges");
        Checks.end();
    }
}
