import java.io.IOException;
import java.nio.file.Files;
import java.nio.file.Path;
import java.util.ArrayList;
import java.util.BitSet;
import java.util.LinkedHashMap;
import java.util.List;
import java.util.Map;

/** The sentences of the document, section by section, and which of their words a test stands for. */
final class DocText {
    private static final List<String> HEADINGS = List.of("Conventions", "The contract", "Bands and penalties",
            "A period is closed in these steps", "Demand", "Setup text", "Waivers", "Changes", "The constants");
    /** The summary, the face (FaceTest looks at it) and what is not promised have nothing to be tested here. */
    private static final List<String> NOT_TESTED = List.of("The administration of a supply contract",
            "The constructor and the methods follow");

    private final Map<String, StringBuilder> sections = new LinkedHashMap<>();
    private final Map<String, BitSet> claimed = new LinkedHashMap<>();

    DocText(Path file) throws IOException {
        String section = "";
        for (String line : Files.readAllLines(file)) {
            String heading = headingOf(line);
            if (heading != null) {
                section = heading;
            } else if (isTested(section, line)) {
                sections.computeIfAbsent(section, s -> new StringBuilder(" ")).append(plain(line)).append(' ');
            }
        }
        for (String name : sections.keySet()) {
            claimed.put(name, new BitSet());
        }
    }

    private static String headingOf(String line) {
        if (line.startsWith("## ")) {
            int colon = line.indexOf(':');
            return colon < 0 ? line.substring(3) : line.substring(3, colon);
        }
        return HEADINGS.stream().filter(h -> line.equals(h + ":")).findFirst().orElse(null);
    }

    private static boolean isTested(String section, String line) {
        boolean told = section.startsWith("Promise ") || section.equals("What it is") || HEADINGS.contains(section);
        boolean signature = line.startsWith("`");
        return told && !signature && !line.isBlank() && NOT_TESTED.stream().noneMatch(line::startsWith);
    }

    private static String plain(String words) {
        return words.trim().replaceAll("\\s+", " ");
    }

    /** Answers whether the section has these words, and marks them. */
    boolean claim(String section, String words) {
        StringBuilder text = sections.get(section);
        String wanted = plain(words);
        if (text == null || wanted.isEmpty()) {
            return false;
        }
        boolean found = false;
        for (int at = text.indexOf(wanted); at >= 0; at = text.indexOf(wanted, at + 1)) {
            claimed.get(section).set(at, at + wanted.length());
            found = true;
        }
        return found;
    }

    /** The words that no test stands for. */
    List<String> unclaimed() {
        List<String> rest = new ArrayList<>();
        for (String section : sections.keySet()) {
            StringBuilder text = sections.get(section);
            BitSet marks = claimed.get(section);
            for (int from = marks.nextClearBit(0); from < text.length(); ) {
                int marked = marks.nextSetBit(from);
                int to = marked < 0 ? text.length() : marked;
                String words = text.substring(from, to);
                if (words.chars().anyMatch(Character::isLetterOrDigit)) {
                    rest.add(section + ": " + words.trim());
                }
                from = marks.nextClearBit(to);
            }
        }
        return rest;
    }

    int sectionCount() {
        return sections.size();
    }
}
