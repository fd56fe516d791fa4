import java.io.IOException;
import java.nio.file.Files;
import java.nio.file.Path;
import java.util.ArrayList;
import java.util.LinkedHashMap;
import java.util.List;
import java.util.Map;
import java.util.regex.Matcher;
import java.util.regex.Pattern;

/**
 * The sentences of the document by section: "promise1" to "promise42", "section1" to "section8" of the description,
 * "use" for what it is, and the other headings as they stand. Where a semicolon parts two cases, each is a sentence.
 */
final class Document {
    private static final Path PLACE = Path.of("../shared/DOC.md");
    private static final Pattern PROMISE = Pattern.compile("## Promise (\\d+): .*");
    private static final Pattern SECTION = Pattern.compile("(\\d)\\. [A-Z, ]+");

    final Map<String, List<String>> sections = new LinkedHashMap<>();

    Document() throws IOException {
        String section = "title";
        boolean inCode = false;
        for (String line : Files.readAllLines(PLACE)) {
            inCode ^= line.startsWith("```");
            section = sectionFrom(line, section);
            if (!inCode && !isHeading(line)) {
                addSentences(section, line);
            }
        }
    }

    static boolean isHere() {
        return Files.isReadable(PLACE);
    }

    private static String sectionFrom(String line, String before) {
        Matcher promise = PROMISE.matcher(line);
        if (promise.matches()) {
            return "promise" + promise.group(1);
        }
        Matcher section = SECTION.matcher(line);
        if (section.matches()) {
            return "section" + section.group(1);
        }
        if (line.equals("## What it is")) {
            return "use";
        }
        if (line.startsWith("Examples (")) {
            return "Examples";
        }
        if (line.equals("The constants:")) {
            return "Constants";
        }
        return line.startsWith("## ") ? line.substring(3) : before;
    }

    private static boolean isHeading(String line) {
        return line.isBlank() || line.startsWith("#") || line.startsWith("`") || line.startsWith("----")
                || SECTION.matcher(line).matches();
    }

    private void addSentences(String section, String line) {
        for (String sentence : line.strip().split("(?<=[.;])\\s+")) {
            sections.computeIfAbsent(section, name -> new ArrayList<>()).add(sentence.replaceAll("[.;:]$", ""));
        }
    }
}
