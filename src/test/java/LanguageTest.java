import java.io.IOException;
import java.nio.file.Files;
import java.nio.file.Path;
import java.util.List;
import java.util.regex.Pattern;

/** What LANGUAGE.md rules out, as far as the program's text shows it by words and signs. */
public final class LanguageTest {
    private static final String PROGRAM = "src/main/java/ComponentContainer.java";
    private static final String[] RULED_OUT = {
        "->", "::", "\\bfinally\\b", "\\bsynchronized\\b", "\\bassert\\b", "\\bpackage\\b", "\\bprotected\\b",
        "\\bcatch\\b", "Exact\\(", "\\bMap\\b", "\\bSet\\b", "\\bSystem\\.(?!arraycopy)", "\\bThread\\b",
        "\\bRandom\\b", "\\bgetMessage\\b", "\\bhashCode\\b", "\\btoString\\b", "\\bstatic \\{", "\\?>",
        "\\bnull\\b", "\\bjava\\.(?!util\\.Arrays;)"};

    public static void main(String[] args) throws IOException {
        Check check = new Check("LanguageTest");
        List<String> lines = Files.readAllLines(Path.of(PROGRAM));
        for (String pattern : RULED_OUT) {
            Pattern ruledOut = Pattern.compile(pattern);
            for (int i = 0; i < lines.size(); i++) {
                String code = lines.get(i).replaceAll("//.*|/\\*\\*.*", "");
                check.same("line " + (i + 1) + " holds " + pattern, ruledOut.matcher(code).find(), false);
            }
        }
        check.same("longest method, about sixty lines", longestMethod(lines) <= 60, true);
        check.finish();
    }

    // A method ends at the first line that closes its own indentation.
    private static int longestMethod(List<String> lines) {
        int longest = 0;
        for (int i = 0; i < lines.size(); i++) {
            String line = lines.get(i);
            String indent = line.substring(0, line.length() - line.stripLeading().length());
            boolean opens = line.endsWith("{") && line.contains("(") && (indent.length() == 4 || indent.length() == 8);
            int end = i;
            while (opens && end < lines.size() - 1 && !lines.get(end).equals(indent + "}")) {
                end++;
            }
            longest = Math.max(longest, end - i);
        }
        return longest;
    }
}
