import java.io.IOException;
import java.nio.file.Files;
import java.nio.file.Path;
import java.util.ArrayList;
import java.util.LinkedHashMap;
import java.util.List;
import java.util.Map;
import java.util.Set;
import java.util.TreeSet;

/** The sentences of the document, section by section, and which of them have a test of their own. */
final class Document {
    static final Path FILE = Path.of("../shared/DOC.md");

    /** How sentences begin that tell what the class is about: no call can be held to these. */
    private static final List<String> OUTLINE =
            List.of("A ledger of dreams.", "Tags stand under other tags, and what", "All numbers are whole.");

    private static final Map<String, List<String>> SENTENCES = read();
    private static final Set<String> TESTED = new TreeSet<>();

    private Document() {
    }

    /** The checks that follow are the test of the sentence of "Terms" that begins so. */
    static void terms(String beginning) {
        sentence("Terms", beginning);
    }

    /** The checks that follow are the test of the sentence of a promise that begins so. */
    static void promise(int number, String beginning) {
        sentence("Promise " + number, beginning);
    }

    static void sentence(String section, String beginning) {
        int found = 0;
        for (String each : SENTENCES.getOrDefault(section, List.of())) {
            if (each.startsWith(beginning)) {
                found++;
                TESTED.add(section + ": " + each);
            }
        }
        Checks.label(section + ", \"" + beginning + "\": ");
        Checks.same("sentences of the document that begin so", found, 1);
    }

    static void eachSentenceHasATest() {
        Checks.label("");
        int sentences = 0;
        for (Map.Entry<String, List<String>> section : SENTENCES.entrySet()) {
            for (String each : section.getValue()) {
                sentences++;
                String full = section.getKey() + ": " + each;
                Checks.same("tested: " + full, TESTED.contains(full) || isOutline(each), true);
            }
        }
        Checks.same("sentences, some at least", sentences > 100, true);
    }

    private static boolean isOutline(String sentence) {
        return OUTLINE.stream().anyMatch(sentence::startsWith);
    }

    private static Map<String, List<String>> read() {
        Map<String, List<String>> sections = new LinkedHashMap<>();
        for (String section : text().split("(?m)^## ")) {
            String title = section.lines().findFirst().orElse("").replaceAll("(Promise \\d+):.*", "$1");
            if (title.startsWith("Promise ") || title.equals("Terms") || title.equals("What it is")) {
                sections.put(title, sentencesOf(section.substring(section.indexOf('\n'))));
            }
        }
        return sections;
    }

    private static String text() {
        try {
            return Files.readString(FILE);
        } catch (IOException e) {
            return "";
        }
    }

    private static List<String> sentencesOf(String section) {
        List<String> sentences = new ArrayList<>();
        for (String paragraph : section.trim().split("\n\\s*\n")) {
            String told = paragraph.replaceAll("\\s+", " ").trim();
            told = told.replaceFirst("^`[^`]*`: ", "").replaceFirst("^(Tags|Dreams|Nights|Terms|Covers)\\. ", "");
            if (told.startsWith("- ")) {
                sentences.addAll(argumentsOf(told.substring(2)));
            } else if (!told.startsWith("Ahead of the calls") && !told.isEmpty()) {
                sentences.addAll(List.of(told.split("(?<=\\.) (?=[A-Z])")));
            }
        }
        return sentences;
    }

    /** Of what is told of arguments, that which names a number; the rest only says what they are. */
    private static List<String> argumentsOf(String told) {
        List<String> naming = new ArrayList<>();
        for (String argument : told.split(" - (?=`)")) {
            if (argument.matches(".*\\d.*")) {
                naming.add(argument);
            }
        }
        return naming;
    }
}
