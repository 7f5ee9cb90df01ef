import java.io.IOException;
import java.io.UncheckedIOException;
import java.nio.file.Files;
import java.nio.file.Path;
import java.util.ArrayList;
import java.util.LinkedHashMap;
import java.util.LinkedHashSet;
import java.util.List;
import java.util.Map;
import java.util.Set;

/**
 * The document, cut into sections and sentences, so that a test can name the sentence that it checks. The sections are
 * "What it is", the parts of the description by their heading words ("General" for what stands before the first of
 * them), and "Promise 1" to "Promise 44".
 */
final class Document {
    private static final Path FILE = Path.of("../shared/DOC.md");
    private static final List<String> PARTS = List.of("Table", "Cells", "Text content", "Picture content", "Cell sizes",
        "Sharing", "Minimum and maximum column widths", "Effective percentages", "Guesses", "Automatic layout",
        "Best layout", "Text", "Clips");
    /** The words that stand alone before the first promise of a group. */
    private static final Set<String> GROUPS = Set.of("Configuration.", "Text.", "Cells.", "Columns.", "Analysis.", "Clips.",
        "Snapshots.");
    /** Sentences that promise nothing that a call could show. */
    private static final List<String> SILENT = List.of("A layout engine for small text tables", "The class is not thread-safe",
        "It contains commands in this form", "The constructor and the methods follow");

    private static final Map<String, List<String>> SECTIONS = read();

    private Document() {
    }

    static List<String> sections() {
        return new ArrayList<>(SECTIONS.keySet());
    }

    static List<String> sentences(String section) {
        List<String> found = SECTIONS.get(section);
        if (found == null) {
            throw new IllegalArgumentException("no section " + section);
        }
        return found;
    }

    /** The only sentence of the section with these words. */
    static String sentenceWith(String section, String words) {
        String found = null;
        for (String sentence : sentences(section)) {
            if (sentence.contains(words)) {
                if (found != null) {
                    throw new IllegalArgumentException(section + ": two sentences have the words " + words);
                }
                found = sentence;
            }
        }
        if (found == null) {
            throw new IllegalArgumentException(section + ": no sentence has the words " + words);
        }
        return found;
    }

    private static Map<String, List<String>> read() {
        Map<String, List<String>> sections = new LinkedHashMap<>();
        String section = "";
        for (String block : text().split("\n\\s*\n|\n(?=- |#)")) {
            String line = block.strip().replaceAll("\\s+", " ");
            if (line.startsWith("#")) {
                section = nameOf(line);
            } else if (block.startsWith("  ")) {
                block.lines().forEach(sections.get(section)::add);
            } else if (!section.isEmpty() && !line.startsWith("`")) {
                for (String part : PARTS) {
                    boolean begins = !section.startsWith("Promise") && line.startsWith(part + ". ");
                    section = begins ? part : section;
                }
                sections.computeIfAbsent(section, s -> new ArrayList<>()).addAll(sentencesOf(line, section));
            }
        }
        return sections;
    }

    private static String nameOf(String heading) {
        if (heading.startsWith("## Promise ")) {
            return heading.substring(3, heading.indexOf(':'));
        }
        return heading.equals("## What it is") ? "What it is" : heading.equals("## Description") ? "General" : "";
    }

    private static Set<String> sentencesOf(String line, String section) {
        Set<String> sentences = new LinkedHashSet<>();
        for (String sentence : line.split("(?<=\\.) ")) {
            boolean silent = GROUPS.contains(sentence) || sentence.equals(section + ".");
            for (String beginning : SILENT) {
                silent = silent || sentence.startsWith(beginning);
            }
            if (!silent) {
                sentences.add(sentence);
            }
        }
        return sentences;
    }

    private static String text() {
        try {
            return Files.readString(FILE);
        } catch (IOException e) {
            throw new UncheckedIOException(e);
        }
    }
}
