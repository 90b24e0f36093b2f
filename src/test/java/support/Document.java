import java.io.IOException;
import java.nio.file.Files;
import java.nio.file.Path;
import java.util.ArrayList;
import java.util.LinkedHashMap;
import java.util.List;
import java.util.Map;

/**
 * The document, told once more sentence by sentence, each with a run that fails if it is broken. At the
 * end the sentences of each section, one behind another, have to be just what the document says there:
 * so none is left out, and none is told in other words.
 */
final class Document {
    private static final Map<String, List<String>> TOLD = new LinkedHashMap<>();
    private static String section = "";

    private Document() {
    }

    static void section(String heading) {
        section = heading;
        TOLD.putIfAbsent(heading, new ArrayList<>());
    }

    /** The next words of the section, with a run about them. */
    static void says(String words, String run) {
        TOLD.get(section).add(words);
        Script.terms(section + ": " + words, run);
    }

    /** Compares all that was told with the document; which sections there have to be is the caller's. */
    static void isWhole(String... headings) {
        Map<String, String> due = sections();
        if (due.isEmpty()) {
            System.out.println("the document is not here: its words are not compared");
            return;
        }
        for (String heading : headings) {
            String told = String.join(" ", TOLD.getOrDefault(heading, List.of()));
            Due.text(heading, told, due.getOrDefault(heading, "no such section"));
        }
        for (String heading : TOLD.keySet()) {
            Due.yes(heading + " is asked for", List.of(headings).contains(heading));
        }
    }

    /** The section's lines as they stand in the document. */
    static List<String> lines(String heading) {
        List<String> found = new ArrayList<>();
        boolean isIn = false;
        for (String line : text().split("\n")) {
            if (line.startsWith("## ")) {
                isIn = line.equals("## " + heading);
            } else if (isIn) {
                found.add(line);
            }
        }
        return found;
    }

    /** What each section says, by its heading: without fences, and without the call that a promise is of. */
    private static Map<String, String> sections() {
        Map<String, String> found = new LinkedHashMap<>();
        for (String line : text().split("\n")) {
            if (line.startsWith("## ")) {
                String heading = line.substring(3);
                found.put(heading, words(lines(heading)));
            }
        }
        return found;
    }

    private static String words(List<String> lines) {
        List<String> kept = new ArrayList<>();
        for (String line : lines) {
            if (!line.startsWith("```")) {
                kept.add(line.trim());
            }
        }
        return String.join(" ", kept).replaceAll("\\s+", " ").trim().replaceFirst("^`[^`]*\\)[^`]*`: ", "");
    }

    private static String text() {
        Path place = Path.of(System.getProperty("fairrates.document", "../shared/DOC.md"));
        try {
            return Files.isRegularFile(place) ? Files.readString(place) : "";
        } catch (IOException e) {
            throw new IllegalStateException(e);
        }
    }
}
