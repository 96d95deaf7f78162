import java.io.IOException;
import java.nio.file.Files;
import java.nio.file.Path;
import java.util.ArrayList;
import java.util.List;
import java.util.regex.Matcher;
import java.util.regex.Pattern;

/** Sentences of the document that name a boundary, each with a test of its own; none is left out. */
final class Sentence {
    static final int TERMS = 0;

    private static final Path DOCUMENT = Path.of("../shared/DOC.md");
    /** What names a boundary: an answer of a refused call, or a span of numbers. */
    private static final Pattern BOUNDARY =
        Pattern.compile("\\b(BAD|FULL|STATE|NOTHING|BEYOND|UNLIKE|NOUGHT|SIZE|NONE)\\b|-?\\d+ \\.\\. -?\\d+");

    private static final List<Integer> PROMISES = new ArrayList<>();
    private static final List<String> QUOTES = new ArrayList<>();

    private Sentence() { }

    /** Runs the test of a sentence of a promise (or of Terms), which is quoted as it stands there. */
    static void holds(int promise, String quote, Runnable test) {
        PROMISES.add(promise);
        QUOTES.add(quote);
        Due.in((promise == TERMS ? "Terms" : "promise " + promise) + ", '" + quote + "': ");
        int before = Due.checks();
        test.run();
        Due.holds("the sentence is tested", Due.checks() > before);
        Due.in("");
    }

    static void ofTerms(String quote, Runnable test) {
        holds(TERMS, quote, test);
    }

    /** Every boundary that these promises name stands in a sentence with a test. */
    static void end(int first, int last) {
        String document = document();
        for (int promise = first; promise <= last && !document.isEmpty(); promise++) {
            covers(promise, section(document, promise));
        }
        String of = last == TERMS ? "Terms" : "promises " + first + " to " + last;
        System.out.println(QUOTES.size() + " sentences of " + of + " have a test of their own");
        Due.end();
    }

    private static String document() {
        try {
            return Files.readString(DOCUMENT);
        } catch (IOException missing) {
            System.out.println("the document is not at " + DOCUMENT + ": the quotes are not looked up");
            return "";
        }
    }

    private static String section(String document, int promise) {
        String heading = promise == TERMS ? "## Terms\n" : "## Promise " + promise + ": ";
        int from = document.indexOf(heading);
        int to = from < 0 ? -1 : document.indexOf("\n## ", from + heading.length());
        return from < 0 ? "" : document.substring(from, to < 0 ? document.length() : to);
    }

    private static void covers(int promise, String section) {
        boolean[] quoted = new boolean[section.length()];
        for (int q = 0; q < QUOTES.size(); q++) {
            if (PROMISES.get(q) != promise) {
                continue;
            }
            int from = section.indexOf(QUOTES.get(q));
            Due.holds("promise " + promise + " says '" + QUOTES.get(q) + "'", from >= 0);
            for (int i = Math.max(from, 0); i < from + QUOTES.get(q).length(); i++) {
                quoted[i] = true;
            }
        }
        Matcher named = BOUNDARY.matcher(section);
        while (named.find()) {
            Due.holds("promise " + promise + ": a test of '" + named.group() + "' at " + named.start() + " ("
                + section.substring(Math.max(0, named.start() - 30), named.start()).replace('\n', ' ') + ")",
                quoted[named.start()]);
        }
    }
}
