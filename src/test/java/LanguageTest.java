import java.io.IOException;
import java.nio.file.Files;
import java.nio.file.Path;
import java.util.ArrayDeque;
import java.util.Deque;
import java.util.List;
import java.util.regex.Matcher;
import java.util.regex.Pattern;

/** The rules of LANGUAGE.md that can be seen in the text of the program. */
public final class LanguageTest {
    private static final String[] FORBIDDEN = {"\\b(throw|throws|try|catch|finally|synchronized|assert)\\b", "->", "::",
        "\\b(System\\.(?!arraycopy)|Thread|Random|Runtime|Scanner)\\b", "\\w+Exact\\b", "\\b(hashCode|toString)\\b",
        "\\bpackage\\b", "\\bimport (?!java\\.util\\.Arrays;)", "\\bstatic \\{", "\\bprotected\\b"};

    public static void main(String[] args) throws IOException {
        List<String> lines = Files.readAllLines(Path.of("src/main/java/InterlockingFrame.java"));
        StringBuilder code = new StringBuilder();
        boolean inComment = false;
        for (String line : lines) {
            inComment |= line.strip().startsWith("/*");
            String kept = inComment ? "" : line.replaceAll("//.*", "").replaceAll("\"[^\"]*\"", "\"\"");
            inComment &= !line.strip().endsWith("*/");
            code.append(kept).append('\n');
        }
        for (String forbidden : FORBIDDEN) {
            Matcher matcher = Pattern.compile(forbidden).matcher(code);
            Check.holds("no " + forbidden, !matcher.find());
        }
        checkMethods(code.toString().split("\n"));
        Check.due("classes at most twelve", Math.max(12, code.toString().split("\\bclass ").length - 1), 12);
        Check.holds("all signs are of the first 127", String.join("", lines).chars().allMatch(sign -> sign < 128));
        Check.finish();
    }

    /** Methods of at most sixty lines with at most seven parameters. */
    private static void checkMethods(String[] lines) {
        Deque<Integer> starts = new ArrayDeque<>();
        for (int at = 0; at < lines.length; at++) {
            for (char sign : lines[at].toCharArray()) {
                if (sign == '{') {
                    starts.push(at);
                } else if (sign == '}') {
                    int start = starts.pop();
                    if (!lines[start].contains(" class ")) {
                        Check.holds("short: " + lines[start].strip(), at - start <= 60);
                    }
                }
            }
            Matcher method = Pattern.compile("^ +[\\w\\[\\] ]+ \\w+\\((.*)\\) \\{$").matcher(lines[at]);
            if (method.find()) {
                Check.holds("few parameters: " + lines[at].strip(), method.group(1).split(",").length <= 7);
            }
        }
    }
}
