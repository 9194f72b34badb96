import java.io.IOException;
import java.nio.file.Files;
import java.nio.file.Path;
import java.util.ArrayList;
import java.util.LinkedHashMap;
import java.util.List;
import java.util.Map;

/** The sentences of ../shared/DOC.md. Each has the number of its promise, 0 for "Terms", before it. */
final class Document {
    private static final Path PATH = Path.of("../shared/DOC.md");

    /** What says nothing that a call could answer wrongly. */
    private static final String[] NOTHING_TO_TEST = {
        "0 Pillows lie in stacks,",
        "0 The class computes",
        "0 It is not thread-safe.",
        "0 All integer divisions round down.",
        "0 It has the form",
        "0 where braces mean",
    };

    private final Map<String, Boolean> tested = new LinkedHashMap<>();

    Document() {
        String text = read();
        String body = text.substring(text.indexOf("## Terms"), text.indexOf("## Not promised"));
        for (String section : body.split("(?m)^## ")) {
            if (section.startsWith("Terms")) {
                addSentences(0, section);
            } else if (section.startsWith("Promise ")) {
                addSentences(Integer.parseInt(section.substring(8, section.indexOf(':'))), section);
            }
        }
    }

    private static String read() {
        try {
            return Files.readString(PATH);
        } catch (IOException unreadable) {
            throw new IllegalStateException("there is no " + PATH);
        }
    }

    private void addSentences(int promise, String section) {
        String body = section.substring(section.indexOf('\n')).replaceAll("<h2>.*?</h2>", "");
        for (String paragraph : body.split("\n\\s*\n")) {
            String line = paragraph.replaceAll("\\s+", " ").trim().replaceAll("^`[^`]*`: ", "");
            if (!line.startsWith("- `")) {
                for (String sentence : line.split("(?<=\\.) ")) {
                    add(promise + " " + sentence);
                }
            }
        }
    }

    private void add(String sentence) {
        for (String beginning : NOTHING_TO_TEST) {
            if (sentence.startsWith(beginning)) {
                return;
            }
        }
        if (!sentence.endsWith(" ")) {
            tested.put(sentence, false);
        }
    }

    /** True if the document has such a sentence; its beginning is enough. */
    boolean markTested(int promise, String beginning) {
        boolean found = false;
        for (Map.Entry<String, Boolean> entry : tested.entrySet()) {
            if (entry.getKey().startsWith(promise + " " + beginning)) {
                entry.setValue(true);
                found = true;
            }
        }
        return found;
    }

    int size() {
        return tested.size();
    }

    List<String> untested() {
        List<String> untested = new ArrayList<>();
        tested.forEach((sentence, done) -> {
            if (!done) {
                untested.add(sentence);
            }
        });
        return untested;
    }
}
