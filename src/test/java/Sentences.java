import java.io.IOException;
import java.nio.file.Files;
import java.nio.file.Path;
import java.util.ArrayList;
import java.util.LinkedHashMap;
import java.util.List;
import java.util.Map;

/** The sentences of the document, section by section, and which of them have a test that quotes them. */
final class Sentences {
    static final int DESCRIPTION = 0;
    private static final Path DOC = Path.of("../shared/DOC.md");
    // They lead over to what follows, or say what the sentence on the exception says again.
    private static final List<String> EMPTY = List.of("It has these settings:", "The constants:", "- `node`: a node",
            "The constructor and the methods follow, a promise each: the signature, then what it does.");

    private final Map<Integer, List<String>> sections = new LinkedHashMap<>();
    private final Map<Integer, List<String>> quotes = new LinkedHashMap<>();

    Sentences() throws IOException {
        String doc = Files.readString(DOC);
        doc = doc.substring(doc.indexOf("## Description"), doc.indexOf("## Not promised"));
        List<String> section = null;
        for (String line : doc.split("\n")) {
            String bare = line.trim();
            if (bare.startsWith("## ")) {
                section = new ArrayList<>();
                sections.put(numberOf(bare), section);
            } else if (!bare.isEmpty() && !bare.startsWith("`") && !bare.startsWith("----")
                    && !bare.matches("[A-Z ,]+")) {
                for (String sentence : bare.split("(?<=\\.) +")) {
                    if (!EMPTY.contains(sentence)) {
                        section.add(sentence);
                    }
                }
            }
        }
    }

    private static int numberOf(String head) {
        return head.equals("## Description") ? DESCRIPTION : Integer.parseInt(head.replaceAll("\\D*(\\d+):.*", "$1"));
    }

    /** Whether the words stand in the section of the promise or in the Description. */
    boolean has(int promise, String words) {
        boolean found = false;
        for (int number : new int[] {promise, DESCRIPTION}) {
            for (String sentence : sections.getOrDefault(number, List.of())) {
                if (sentence.contains(words)) {
                    quotes.computeIfAbsent(number, n -> new ArrayList<>()).add(words);
                    found = true;
                }
            }
        }
        return found;
    }

    /** The sentences that no test has quoted. */
    List<String> untold() {
        List<String> all = new ArrayList<>();
        sections.forEach((number, sentences) -> {
            for (String sentence : sentences) {
                if (quotes.getOrDefault(number, List.of()).stream().noneMatch(sentence::contains)) {
                    all.add((number == DESCRIPTION ? "Description" : "Promise " + number) + ": " + sentence);
                }
            }
        });
        return all;
    }

    int count() {
        return sections.values().stream().mapToInt(List::size).sum();
    }
}
