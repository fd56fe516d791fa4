import java.io.IOException;
import java.lang.reflect.Method;
import java.nio.file.Files;
import java.nio.file.Path;
import java.util.List;
import java.util.Map;
import java.util.Set;
import java.util.TreeSet;
import java.util.stream.Collectors;
import java.util.stream.Stream;

/**
 * Each sentence of the document has a test in the classes of boundary tests, or stands here as one that names no
 * boundary; and each of those tests quotes a sentence of the section that its name begins with.
 */
public final class EverySentenceTest {
    private static final List<Class<?>> TESTS = List.of(DescriptionBoundaryTest.class, SheetFormatBoundaryTest.class,
            SheetBoundaryTest.class, ContentsBoundaryTest.class, WorkingBoundaryTest.class, StatesBoundaryTest.class,
            RoutesBoundaryTest.class, ReductionBoundaryTest.class, MergingBoundaryTest.class);

    /** These are held by ExamplesTest and FaceTest, or promise nothing. */
    private static final Set<String> OTHER_SECTIONS = Set.of("title", "Description", "Examples", "Constants", "Not promised");

    /** Parameters that are told by their kind alone; what is out of range for them is told by the answers. */
    private static final String PLAIN_PARAMETER = "- `\\w+`: (number of a (rule|lever|route|conflict)|number of lever [AB]"
            + "|a state|(first|next|last) four bytes)";

    /** Sentences that say what is answered without a boundary; the other tests hold the program to them. */
    private static final Set<String> PLAIN = Set.of(
            "use: A designer and checker for a mechanical railway interlocking (a lever frame with tappet locking)",
            "use: what later calls answer is free",
            "section1: The current state belongs to the frame itself",
            "section5: The reduced sheet is found as follows",
            "section7: Grammar, where braces mean any number of repetitions, square brackets mean optional, a bar separates "
                    + "alternatives, and symbols in quotes stand for themselves",
            "section7: The error codes are",
            "promise4: Returns the error code",
            "promise5: Returns the offset",
            "promise6: Returns the number of bytes",
            "promise7: Returns the number of levers",
            "promise8: Returns the number of rules",
            "promise9: Returns the kind of a rule",
            "promise10: Returns the levers of a rule",
            "promise11: Returns the condition of a rule",
            "promise12: Returns the number of routes",
            "promise13: Returns the levers of a route",
            "promise14: Returns the number of declared conflicts",
            "promise15: Returns the state",
            "promise16: Moves a lever of the frame",
            "promise17: Adds a rule",
            "promise18: Removes a rule",
            "promise20: Tells whether a state is legal",
            "promise21: Finds the rule that blocks the move of a lever in a state",
            "promise22: Returns the levers whose move is allowed in a state",
            "promise24: Returns the distance between two states",
            "promise25: Returns the first lever to move on a shortest way between two states",
            "promise25: Returns the lever",
            "promise27: Returns the state",
            "promise28: Returns the number of moves",
            "promise29: Returns the count",
            "promise30: Returns the conflicts that are not protected",
            "promise32: Returns the size of the completion: the number of locks that the following procedure adds",
            "promise33: Returns one lock of the completion",
            "promise35: Returns the state",
            "promise36: Tells whether a rule is implied by all other rules of the sheet",
            "promise37: Returns the reduced sheet",
            "promise38: Returns the number of moves",
            "promise39: Returns one move of the test for a rule",
            "promise39: Returns the lever that is moved",
            "promise40: Tells whether two levers are mergeable",
            "promise41: Returns the count");

    public static void main(String[] args) throws IOException {
        checkAllClassesAreListed();
        if (!Document.isHere()) {
            System.out.println("the document is not here: the tests are not compared with its sentences");
            Check.finish();
            return;
        }
        Map<String, List<String>> document = new Document().sections;
        Set<String> quoted = new TreeSet<>();
        for (Class<?> tests : TESTS) {
            for (Method test : BoundaryTests.marked(tests)) {
                String section = BoundaryTests.section(test);
                List<String> sentences = document.getOrDefault(section, List.of());
                String quote = BoundaryTests.quote(test);
                Check.holds(test.getName() + " quotes " + section + ": " + quote, sentences.contains(quote));
                quoted.add(section + ": " + quote);
            }
        }
        checkEverySentence(document, quoted);
        Check.finish();
    }

    private static void checkAllClassesAreListed() throws IOException {
        try (Stream<Path> files = Files.list(Path.of("src/test/java"))) {
            Set<String> found = files.map(file -> file.getFileName().toString())
                    .filter(name -> name.endsWith("BoundaryTest.java"))
                    .map(name -> name.replace(".java", "")).collect(Collectors.toSet());
            Check.holds("every class of boundary tests is listed",
                    found.equals(TESTS.stream().map(Class::getName).collect(Collectors.toSet())));
        }
    }

    private static void checkEverySentence(Map<String, List<String>> document, Set<String> quoted) {
        for (int promise = 1; promise <= 42; promise++) {
            Check.holds("promise " + promise + " is in the document", document.containsKey("promise" + promise));
        }
        document.forEach((section, sentences) -> {
            for (String sentence : sentences) {
                String name = section + ": " + sentence;
                boolean plain = OTHER_SECTIONS.contains(section) || sentence.matches(PLAIN_PARAMETER) || PLAIN.contains(name);
                Check.holds((plain ? "is plain, but has a test: " : "has a test: ") + name, quoted.contains(name) != plain);
            }
        });
    }
}
