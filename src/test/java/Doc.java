import java.io.IOException;
import java.io.UncheckedIOException;
import java.nio.file.Files;
import java.nio.file.Path;
import java.util.ArrayList;
import java.util.LinkedHashMap;
import java.util.LinkedHashSet;
import java.util.List;
import java.util.Map;
import java.util.Set;

/**
 * The sentences of the document. A test names the sentence that it tests by some of its words, so
 * that a sentence without a test is seen, and a test whose sentence is not in the document, too.
 */
final class Doc {
    private static final Path FILE = Path.of("../shared/DOC.md");
    private static final String TERMS = "Terms";

    /** By the heading of a section: its sentences that no test has named yet, and all of them. */
    private final Map<String, Set<String>> untested = new LinkedHashMap<>();
    private final Map<String, List<String>> all = new LinkedHashMap<>();
    private String section = "";
    private int checksBefore = -1;

    Doc() {
        String heading = "";
        for (String line : lines()) {
            if (line.startsWith("## ")) {
                heading = line.substring(3);
            } else if (heading.equals(TERMS) || heading.startsWith("Promise ")) {
                readLine(heading, line);
            }
        }
    }

    private static List<String> lines() {
        try {
            return Files.readAllLines(FILE);
        } catch (IOException e) {
            throw new UncheckedIOException(e);
        }
    }

    private void readLine(String heading, String line) {
        all.computeIfAbsent(heading, key -> new ArrayList<>());
        untested.computeIfAbsent(heading, key -> new LinkedHashSet<>());
        if (line.startsWith("Ahead of the calls")) {
            return;
        }
        // What a call does stands behind its head, and an argument behind a dash.
        String text = line.replaceFirst("^`[^`]*\\)[^`]*`: ", "").replaceFirst("^- ", "");
        for (String sentence : text.split("(?<=\\.\\)?)\\s+(?=[A-Z(])")) {
            boolean isTitle = heading.equals(TERMS) && sentence.matches("[A-Z][a-z]+( [a-z]+)?\\.");
            if (!sentence.isEmpty() && !isTitle) {
                all.get(heading).add(sentence);
                untested.get(heading).add(sentence);
            }
        }
    }

    void terms() {
        begin(TERMS);
    }

    void promise(int number) {
        for (String heading : all.keySet()) {
            if (heading.startsWith("Promise " + number + ":")) {
                begin(heading);
                return;
            }
        }
        begin("Promise " + number);
    }

    private void begin(String heading) {
        requireChecks();
        section = heading;
        Check.due("there is a section " + heading, all.containsKey(heading), true);
        checksBefore = Check.done() - 1;
    }

    /** Says that the checks from here on test the one sentence of the section with these words. */
    void says(String words) {
        requireChecks();
        List<String> found = new ArrayList<>();
        for (String sentence : all.getOrDefault(section, List.of())) {
            if (sentence.contains(words)) {
                found.add(sentence);
            }
        }
        Check.at(section + ", '" + words + "': ");
        Check.due("sentences with these words", found.size(), 1);
        untested.getOrDefault(section, Set.of()).removeAll(found);
        checksBefore = Check.done();
    }

    private void requireChecks() {
        if (Check.done() == checksBefore) {
            Check.due("a sentence has checks", 0, "at least one");
        }
        Check.at("");
    }

    void allAreTested() {
        requireChecks();
        Check.due("sections", all.size(), 28);
        for (String heading : untested.keySet()) {
            for (String sentence : untested.get(heading)) {
                Check.due(heading + ", '" + sentence + "'", "has no test", "has a test");
            }
        }
    }
}
