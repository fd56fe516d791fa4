import java.lang.reflect.Constructor;
import java.lang.reflect.Field;
import java.lang.reflect.Method;
import java.lang.reflect.Modifier;
import java.util.Arrays;
import java.util.List;
import java.util.Set;
import java.util.TreeSet;
import java.util.stream.Collectors;

/** The public face, the constants, and promise 1: a new object. */
public final class FaceTest {
    private static final String FACE = "appendBytes5 parseSheet1 parseError0 parseErrorOffset0 bufferLength0 leverCount0"
            + " ruleCount0 ruleKind1 ruleLevers1 ruleCondition1 routeCount0 routeLevers1 conflictCount0 currentState0"
            + " moveLever1 addRule4 removeRule1 undo0 isLegal1 blockingRule2 freeLevers1 reachableCount0 distance2"
            + " nextMove2 excludedLevers1 settingState1 settingMoves1 jointStates2 unprotectedConflicts0 proposedLock1"
            + " completionSize0 completionLock1 largestRouteSet0 farthestState0 isImplied1 reducedSheet0 testLength1"
            + " testMove2 isMergeable2 mergedReachableCount2 leversAfterMerging0";

    public static void main(String[] args) {
        checkConstants();
        checkMembers();
        checkNewObject();
        checkObjectsAreApart();
        Check.finish();
    }

    private static void checkConstants() {
        Check.due("NONE", InterlockingFrame.NONE, -1);
        Check.due("NO_SUCH", InterlockingFrame.NO_SUCH, -2);
        Check.due("BAD_VALUE", InterlockingFrame.BAD_VALUE, -3);
        Check.due("FULL", InterlockingFrame.FULL, -4);
        Check.due("EMPTY", InterlockingFrame.EMPTY, -5);
        Check.due("BLOCKED", InterlockingFrame.BLOCKED, -6);
    }

    private static void checkMembers() {
        Class<?> face = InterlockingFrame.class;
        Check.holds("the class is public and final",
                Modifier.isPublic(face.getModifiers()) && Modifier.isFinal(face.getModifiers()));
        Set<String> found = new TreeSet<>();
        Set<String> names = new TreeSet<>();
        for (Method method : face.getDeclaredMethods()) {
            if (!Modifier.isPrivate(method.getModifiers())) {
                Check.holds(method + " is a public int method of an object", method.getReturnType() == int.class
                        && method.getModifiers() == Modifier.PUBLIC
                        && Arrays.stream(method.getParameterTypes()).allMatch(type -> type == int.class));
                found.add(method.getName() + method.getParameterCount());
                names.add(method.getName());
            }
        }
        Check.holds("the methods are those of the document", found.equals(new TreeSet<>(List.of(FACE.split(" ")))));
        for (Method method : face.getDeclaredMethods()) {
            Check.holds(method + " bears no name twice",
                    Modifier.isPublic(method.getModifiers()) || !names.contains(method.getName()));
        }
        Set<String> fields = Arrays.stream(face.getDeclaredFields())
                .filter(field -> !Modifier.isPrivate(field.getModifiers()))
                .map(Field::getName).collect(Collectors.toSet());
        Check.holds("the constants are those of the document",
                fields.equals(Set.of("NONE", "NO_SUCH", "BAD_VALUE", "FULL", "EMPTY", "BLOCKED")));
        Constructor<?>[] constructors = face.getDeclaredConstructors();
        Check.holds("one public constructor without parameters", constructors.length == 1
                && Modifier.isPublic(constructors[0].getModifiers()) && constructors[0].getParameterCount() == 0);
        for (Class<?> inside : face.getDeclaredClasses()) {
            Check.holds(inside + " is static", Modifier.isStatic(inside.getModifiers()));
            for (Method method : inside.getDeclaredMethods()) {
                Check.holds(method + " has a name of its own", !names.contains(method.getName()));
            }
        }
    }

    private static void checkNewObject() {
        InterlockingFrame frame = new InterlockingFrame();
        Check.due("leverCount", frame.leverCount(), 2);
        Check.due("currentState", frame.currentState(), 0);
        Check.due("ruleCount", frame.ruleCount(), 0);
        Check.due("routeCount", frame.routeCount(), 0);
        Check.due("conflictCount", frame.conflictCount(), 0);
        Check.due("bufferLength", frame.bufferLength(), 0);
        Check.due("parseError", frame.parseError(), 0);
        Check.due("parseErrorOffset", frame.parseErrorOffset(), -1);
        Check.due("undo", frame.undo(), -5);
        Check.due("reachableCount", frame.reachableCount(), 4);
        Check.due("reducedSheet", frame.reducedSheet(), 0);
        Check.due("completionSize", frame.completionSize(), 0);
        Check.due("leversAfterMerging", frame.leversAfterMerging(), 1);
    }

    private static void checkObjectsAreApart() {
        InterlockingFrame one = new InterlockingFrame();
        InterlockingFrame other = new InterlockingFrame();
        one.addRule(0, 0, 1, -1);
        one.moveLever(1);
        one.appendBytes(1, 2, 3, 4, 5);
        Check.due("ruleCount of the other", other.ruleCount(), 0);
        Check.due("currentState of the other", other.currentState(), 0);
        Check.due("bufferLength of the other", other.bufferLength(), 0);
        Check.due("reachableCount of the other", other.reachableCount(), 4);
    }
}
