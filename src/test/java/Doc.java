import java.io.IOException;
import java.io.UncheckedIOException;
import java.nio.file.Files;
import java.nio.file.Path;
import java.util.ArrayList;
import java.util.List;
import java.util.Map;
import java.util.Set;
import java.util.TreeMap;
import java.util.TreeSet;

/**
 * The sentences of the document, and which of them a test has named. It finds ../shared from the
 * project's directory.
 *
 * A promise is taken apart into clauses: each argument, each sentence and each part of the line of
 * answers is one, without "Returns" and the final point. Where the document is not at hand, the
 * answers are looked at all the same, but not whether all sentences have a test.
 */
final class Doc {
    private static final Path DOCUMENT = Path.of("../shared/DOC.md");
    private static final Map<Integer, Set<String>> PROMISES = new TreeMap<>();
    private static final List<String> TERMS = new ArrayList<>();
    private static final Set<String> NAMED = new TreeSet<>();

    private Doc() {
    }

    /** Names a clause of a promise, or a part of a sentence that it rests on; answers the name of its test. */
    static String says(int promise, String words) {
        String name = "promise " + promise + ", '" + words + "'";
        if (!load()) {
            return name;
        }
        boolean found = PROMISES.containsKey(promise) && PROMISES.get(promise).contains(words);
        if (found) {
            NAMED.add(promise + ": " + words);
        } else {
            for (String sentence : TERMS) {
                if (sentence.contains(words)) {
                    NAMED.add(sentence);
                    found = true;
                }
            }
        }
        Script.check("the document says, for promise " + promise + ": " + words, found);
        return name;
    }

    /** Each clause of each promise, and each sentence of the terms, must have been named. */
    static void everythingIsNamed() {
        if (!load()) {
            System.out.println(DOCUMENT + " is not there: nobody looks whether all of its sentences have a test");
            return;
        }
        Script.check("there are 43 promises", PROMISES.size() == 43);
        PROMISES.forEach((promise, clauses) -> {
            for (String clause : clauses) {
                checkNamed(promise + ": " + clause);
            }
        });
        for (String sentence : TERMS) {
            checkNamed(sentence);
        }
    }

    private static void checkNamed(String what) {
        Script.check("a test names '" + what + "'", NAMED.contains(what));
    }

    private static boolean load() {
        if (!PROMISES.isEmpty() || !Files.exists(DOCUMENT)) {
            return !PROMISES.isEmpty();
        }
        try {
            String text = Files.readString(DOCUMENT).replace("`", "");
            for (String section : text.split("\n## ")) {
                if (section.startsWith("Promise ")) {
                    takePromise(section);
                } else if (section.startsWith("What it is")) {
                    takeTerms(section.substring(section.indexOf("An object is used")));
                } else if (section.startsWith("Terms")) {
                    takeTerms(section.substring(section.indexOf("Sentences. "), section.indexOf("Examples: ")));
                }
            }
        } catch (IOException e) {
            throw new UncheckedIOException(e);
        }
        return true;
    }

    private static void takePromise(String section) {
        int number = Integer.parseInt(section.substring("Promise ".length(), section.indexOf(':')));
        Set<String> clauses = new TreeSet<>();
        // Behind the heading stands the method with its parameters, and behind the colon what it does.
        String body = section.substring(section.indexOf("): ") + 3);
        for (String line : body.split("\n")) {
            for (String part : line.startsWith("- ") ? new String[] {line} : line.split("(?<=\\.) |; ")) {
                String clause = part.strip().replaceAll("^- |^Returns |\\.$", "");
                if (!clause.isEmpty()) {
                    clauses.add(clause);
                }
            }
        }
        PROMISES.put(number, clauses);
    }

    private static void takeTerms(String text) {
        for (String paragraph : text.split("\n")) {
            for (String sentence : paragraph.split("(?<=\\.) ")) {
                // Shorter ones are headings, or the numbers of a list.
                if (sentence.strip().split(" ").length > 2) {
                    TERMS.add(sentence.strip());
                }
            }
        }
    }
}
