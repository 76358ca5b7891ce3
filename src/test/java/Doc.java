import java.io.IOException;
import java.nio.file.Files;
import java.nio.file.Path;
import java.util.ArrayList;
import java.util.List;

/**
 * The document's sentences, and which of them have had a test of their own. Section 0 is all that
 * stands before promise 1.
 */
final class Doc {
    private static final int PROMISES = 38;
    private static final String[] SECTIONS = read();
    private static final List<List<String>> QUOTES = new ArrayList<>();
    private static String open = "";
    private static int madeBefore;

    private Doc() {
    }

    private static String[] read() {
        try {
            String text = Files.readString(Path.of("../shared/DOC.md"));
            return text.substring(0, text.indexOf("## Not promised")).split("## Promise \\d+: ");
        } catch (IOException e) {
            throw new IllegalStateException("the document can't be read", e);
        }
    }

    /** Begins the test of a sentence: what is checked from here to the next call of this is it. */
    static void says(int section, String words) {
        close();
        while (QUOTES.size() <= PROMISES) {
            QUOTES.add(new ArrayList<>());
        }
        Check.due(section + " says: " + words, SECTIONS[section].contains(words), true);
        QUOTES.get(section).add(words);
        open = section + " " + words;
        madeBefore = Check.made();
    }

    private static void close() {
        if (!open.isEmpty()) {
            Check.due("has a test of its own: " + open, Check.made() > madeBefore, true);
        }
    }

    /** Each argument, each answer and each exception of each promise has had a test. */
    static void allHaveHadOne() {
        close();
        for (int section = 1; section <= PROMISES; section++) {
            for (String line : SECTIONS[section].split("\n")) {
                if (line.startsWith("- `") || line.startsWith("Returns ") || line.startsWith("Throws ")) {
                    Check.due("has a test: " + section + " " + line, isQuoted(section, line), true);
                }
            }
        }
        termsHaveHadOne();
    }

    /** So has each sentence before promise 1 that names a limit, what holds at first, or what is empty. */
    private static void termsHaveHadOne() {
        for (String sentence : SECTIONS[0].substring(SECTIONS[0].indexOf("## Terms")).split("(?<=[.)])\\s+")) {
            if (sentence.matches("(?s).*\\b(most|least|first|from \\d|greater|greatest|lowest|fewest|nothing"
                    + "|single|none|one or more|0|1)\\b.*") && !sentence.startsWith("Ahead of")) {
                Check.due("has a test: " + sentence, isQuoted(0, sentence), true);
            }
        }
    }

    private static boolean isQuoted(int section, String line) {
        for (String words : QUOTES.get(section)) {
            if (line.contains(words)) {
                return true;
            }
        }
        return false;
    }
}
