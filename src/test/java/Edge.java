import java.io.IOException;
import java.nio.file.Files;
import java.nio.file.Path;
import java.util.ArrayList;
import java.util.List;
import java.util.regex.Matcher;
import java.util.regex.Pattern;

/**
 * Holds the tests of boundary cases against the document's own words: each test names its sentence,
 * the sentence must stand there, and at the end no boundary that the document names is without one.
 */
final class Edge {
    static final int TERMS = 0;
    private static final int PROMISES = 43;
    private static final Path DOC = Path.of("../shared/DOC.md");
    private static final Pattern BOUNDARY = Pattern.compile("\\b(BAD|STATE|FULL|NONE)\\b|\\d+ to (\\d+|n)|at (most|least|first)\\b"
            + "|\\b[Tt]he (first|least|greatest|latest)\\b|of several|no (more|less) than|1 or more|too long|out of its bounds"
            + "|second time|6th|above \\d+|more than \\d+|below 0|less than|empty|lowest|modulo|by itself|[Ww]ithout|nothing|in place of");

    private static String[] sections = null;
    private static final List<List<int[]>> SAID = new ArrayList<>();

    private Edge() {
    }

    /** The answers due next are about these words of a promise (or of TERMS). */
    static void of(int promise, String words) {
        load();
        Due.about((promise == TERMS ? "terms: " : "promise " + promise + ": ") + words);
        if (sections.length == 0) {
            return;
        }
        String section = sections[promise];
        int at = section.indexOf(words);
        Due.due("stands in the document, and once", at >= 0 && section.indexOf(words, at + 1) < 0 ? 1 : 0, 1);
        SAID.get(promise).add(new int[] {at, at + words.length()});
    }

    static void finish() {
        load();
        Due.about("");
        for (int promise = 0; promise < sections.length; promise++) {
            Due.due("promise " + promise + " has a test", SAID.get(promise).isEmpty() ? 0 : 1, 1);
            Matcher m = BOUNDARY.matcher(sections[promise]);
            while (m.find()) {
                String where = sections[promise].substring(Math.max(0, m.start() - 40), Math.min(sections[promise].length(), m.end() + 10));
                Due.due("promise " + promise + " has a test of '" + m.group() + "' in '" + where + "'", isSaid(promise, m.start(), m.end()) ? 1 : 0, 1);
            }
        }
    }

    private static boolean isSaid(int promise, int from, int to) {
        for (int[] said : SAID.get(promise)) {
            if (said[0] <= from && to <= said[1]) {
                return true;
            }
        }
        return false;
    }

    private static void load() {
        if (sections != null) {
            return;
        }
        for (int promise = 0; promise <= PROMISES; promise++) {
            SAID.add(new ArrayList<>());
        }
        try {
            String doc = Files.readString(DOC).replaceAll("\\s+", " ");
            String[] found = new String[PROMISES + 1];
            found[0] = between(doc, "## Terms", "## Promise 1:");
            for (int promise = 1; promise <= PROMISES; promise++) {
                found[promise] = between(doc, "## Promise " + promise + ":", promise < PROMISES ? "## Promise " + (promise + 1) + ":" : "## Not promised");
            }
            sections = found;
        } catch (IOException e) {
            System.out.println("no document at " + DOC + ": its words are not looked at");
            sections = new String[0];
        }
    }

    private static String between(String doc, String head, String next) {
        int from = doc.indexOf(head);
        int to = doc.indexOf(next);
        return from < 0 || to < from ? "" : doc.substring(from + head.length(), to);
    }
}
