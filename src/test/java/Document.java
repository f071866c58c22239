import java.io.IOException;
import java.nio.file.Files;
import java.nio.file.Path;
import java.util.LinkedHashMap;
import java.util.List;
import java.util.Map;

/** The words of ../shared/DOC.md by sections, and which of them no test has quoted yet. */
final class Document {
    private static final Path PLACE = Path.of("../shared/DOC.md");
    // FaceTest holds to the face; the others promise nothing.
    private static final List<String> LEFT_OUT = List.of("CordDoors", "The public face", "Not promised");

    private final Check check;
    private final boolean there;
    private final Map<String, StringBuilder> unquoted = new LinkedHashMap<>();
    private String section = "";

    Document(Check check) throws IOException {
        this.check = check;
        there = Files.isReadable(PLACE);
        if (there) {
            read(Files.readAllLines(PLACE));
        } else {
            System.out.println("there is no " + PLACE + ": what the tests quote is not compared with it");
        }
    }

    private void read(List<String> lines) {
        StringBuilder text = new StringBuilder();
        for (String line : lines) {
            if (line.startsWith("#")) {
                text = new StringBuilder();
                unquoted.put(line.replaceFirst("^#+ ", "").trim(), text);
            } else {
                text.append(line.replaceFirst("^- ", "").trim()).append(' ');
            }
        }
        LEFT_OUT.forEach(unquoted::remove);
    }

    void enter(String title) {
        section = title;
        check.holds("the document has a section \"" + title + "\"", !there || unquoted.containsKey(title));
    }

    String section() {
        return section;
    }

    /** Takes these words away, so that a second place that says the same needs a test of its own. */
    void quote(String words) {
        StringBuilder text = unquoted.getOrDefault(section, new StringBuilder());
        int place = text.indexOf(words);
        check.holds("\"" + section + "\" says: " + words, !there || place >= 0);
        if (place >= 0) {
            text.delete(place, place + words.length());
        }
    }

    /** Every sentence has to be quoted: by its test, or as one that names no boundary case. */
    void end() {
        unquoted.forEach((title, text) ->
            check.holds("all of \"" + title + "\" is quoted, not left: " + text.toString().trim(),
                text.toString().isBlank()));
    }
}
