import java.lang.reflect.InvocationTargetException;
import java.lang.reflect.Method;
import java.util.Arrays;
import java.util.Comparator;
import java.util.List;
import java.util.function.IntUnaryOperator;

/**
 * What the tests of the document's boundaries share. Each of their methods holds the program to one sentence: its name
 * begins with the promise or with the section of the description, and its mark quotes the sentence.
 */
abstract class BoundaryTests {
    static final int NONE = -1;
    static final int NO_SUCH = -2;
    static final int BAD_VALUE = -3;
    static final int FULL = -4;
    static final int EMPTY = -5;
    static final int BLOCKED = -6;
    static final int MIN = Integer.MIN_VALUE;
    static final int MAX = Integer.MAX_VALUE;

    /** Two levers of which each needs the other first: only the home state is reachable. */
    static final String STUCK = "levers 2;0 releases 1;1 releases 0;";

    static void runSentences(Class<?> tests) throws IllegalAccessException {
        for (Method test : marked(tests)) {
            int before = Check.wrongAnswers();
            try {
                test.invoke(null);
            } catch (InvocationTargetException thrown) {
                Check.holds(thrown.getCause() + " was thrown", false);
            }
            if (Check.wrongAnswers() != before) {
                System.out.println("FAILED " + test.getName() + ": " + quote(test));
            }
        }
        Check.finish();
    }

    static List<Method> marked(Class<?> tests) {
        return Arrays.stream(tests.getDeclaredMethods())
                .filter(method -> method.isAnnotationPresent(Sentence.class))
                .sorted(Comparator.comparing(Method::getName)).toList();
    }

    static String quote(Method test) {
        return test.getAnnotation(Sentence.class).value();
    }

    /** The promise or section that the name of the test begins with. */
    static String section(Method test) {
        return test.getName().replaceAll("_.*", "");
    }

    static void due(String call, long got, long want) {
        Check.due(call, got, want);
    }

    static InterlockingFrame frame(String sheet) {
        return Check.frame(sheet);
    }

    /** The method knows the numbers from 0 to the count minus 1 and no others. */
    static void noSuchBeyond(String name, IntUnaryOperator method, int count) {
        refusedBeyond(name, method, count, NO_SUCH);
    }

    static void badValueBeyond(String name, IntUnaryOperator method, int count) {
        refusedBeyond(name, method, count, BAD_VALUE);
    }

    private static void refusedBeyond(String name, IntUnaryOperator method, int count, int refusal) {
        for (int known : new int[] {0, count - 1}) {
            if (known >= 0 && known < count) {
                Check.holds(name + " of " + known + " is not refused", method.applyAsInt(known) != refusal);
            }
        }
        for (int beyond : new int[] {-1, -2, MIN, count, count + 1, count + 32, count + 64, count + 4096, MAX}) {
            due(name + " of " + beyond, method.applyAsInt(beyond), refusal);
        }
    }

    static void dueMoves(String name, InterlockingFrame frame, int rule, int... moves) {
        due(name + " testLength", frame.testLength(rule), moves.length);
        for (int index = 0; index < moves.length; index++) {
            due(name + " testMove " + index, frame.testMove(rule, index), moves[index]);
        }
        due(name + " testMove behind the last", frame.testMove(rule, moves.length), NONE);
    }

    /** What a frame says of itself, with what it finds out about its conflicts. */
    static String contents(InterlockingFrame frame) {
        StringBuilder contents = new StringBuilder(Check.contents(frame));
        contents.append(", reachable ").append(frame.reachableCount());
        contents.append(", unprotected ").append(frame.unprotectedConflicts()).append(", locks");
        for (int conflict = 0; conflict < frame.conflictCount(); conflict++) {
            contents.append(' ').append(frame.proposedLock(conflict));
        }
        return contents.toString();
    }

    /** The contents, then what each undo brings back, then what the text buffer holds; the frame is used up by it. */
    static String wholeStory(InterlockingFrame frame) {
        StringBuilder story = new StringBuilder(contents(frame));
        for (int left = frame.undo(); left != EMPTY; left = frame.undo()) {
            story.append("\nleft ").append(left).append(": ").append(contents(frame));
        }
        story.append("\nparsed ").append(frame.parseSheet(frame.bufferLength()));
        return story.append(": ").append(contents(frame)).toString();
    }

    static void same(String what, String got, String want) {
        if (!got.equals(want)) {
            System.out.println("got  " + got + "\nwant " + want);
        }
        Check.holds(what, got.equals(want));
    }
}
