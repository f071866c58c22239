import java.io.IOException;
import java.nio.file.Files;
import java.nio.file.Path;
import java.util.List;
import java.util.regex.Matcher;
import java.util.regex.Pattern;

/** What of ../shared/LANGUAGE.md can be read off the text of the class; run where src/main/java is found. */
public final class RulesTest {
    private static final Check CHECK = new Check();
    private static final String[] FORBIDDEN = {
        "->", "::", "\\bcatch\\b", "\\btry\\b", "\\bthrow\\b", "\\bfinally\\b", "\\bsynchronized\\b", "\\bassert\\b",
        "\\bpackage\\b", "\\bprotected\\b", "\\bvar\\b", "Exact\\(", "\\bSystem\\.(?!arraycopy)", "\\bThread\\b",
        "\\blong\\[\\]\\[\\]\\[\\]", "\\bstatic\\s*\\{", "\\.equals\\(", "\\.hashCode\\(", "\\.toString\\(",
        "\\bRandom\\b", "\\bnative\\b", "\\bvolatile\\b", "@"};

    public static void main(String[] args) throws IOException {
        String source = Files.readString(Path.of("src/main/java/CordDoors.java"));
        String code = source.replaceAll("(?s)/\\*.*?\\*/", "").replaceAll("//[^\n]*", "");
        for (String forbidden : FORBIDDEN) {
            CHECK.holds("no " + forbidden, !Pattern.compile(forbidden).matcher(code).find());
        }
        imports(code);
        plainCharacters(source);
        shortMethods(code);
        CHECK.end("RulesTest");
    }

    private static void imports(String code) {
        Matcher matcher = Pattern.compile("import ([\\w.]+);").matcher(code);
        while (matcher.find()) {
            CHECK.holds("import of " + matcher.group(1),
                List.of("java.util.Arrays", "java.util.ArrayList", "java.util.List").contains(matcher.group(1)));
        }
    }

    private static void plainCharacters(String source) {
        for (int place = 0; place < source.length(); place++) {
            char sign = source.charAt(place);
            if (sign != '\n' && (sign < ' ' || sign > '~')) {
                CHECK.holds("plain characters alone, not " + (int) sign, false);
            }
        }
    }

    /** A method begins at a line with "(" and "{" behind a type, and ends at the brace of its own indent. */
    private static void shortMethods(String code) {
        String[] lines = code.split("\n");
        Pattern head = Pattern.compile("^( {4,8})(?:[a-z]+ )*[\\w\\[\\]<>]+ ?\\w*\\(([^)]*)\\) \\{$");
        int methods = 0;
        for (int line = 0; line < lines.length; line++) {
            Matcher matcher = head.matcher(lines[line]);
            if (matcher.matches() && !lines[line].trim().matches("(if|for|while|switch|else).*")) {
                int end = line;
                while (end < lines.length && !lines[end].equals(matcher.group(1) + "}")) {
                    end++;
                }
                methods++;
                CHECK.holds("at most sixty lines: " + lines[line].trim(), end - line < 60);
                CHECK.holds("at most seven parameters: " + lines[line].trim(), matcher.group(2).split(",").length <= 7);
            }
        }
        CHECK.holds("methods are found", methods >= 28);
    }
}
