import java.lang.reflect.Array;
import java.lang.reflect.Field;
import java.lang.reflect.Modifier;
import java.util.ArrayDeque;
import java.util.Collections;
import java.util.Deque;
import java.util.IdentityHashMap;
import java.util.Set;

/** A run has room for some 600,000 objects and arrays with 7.3 million fields and elements in all. */
public final class RoomTest {
    private static final int MOST_OBJECTS = 600_000;
    private static final int MOST_CELLS = 7_300_000;
    /** Far more frames than a run makes. */
    private static final int FRAMES = 300;

    public static void main(String[] args) throws IllegalAccessException {
        InterlockingFrame frame = new InterlockingFrame();
        Room before = new Room(frame);
        Check.holds("objects of a new frame, here " + before.objects, FRAMES * before.objects <= MOST_OBJECTS);
        Check.holds("fields and elements of a new frame, here " + before.cells, FRAMES * before.cells <= MOST_CELLS);
        useAll(frame);
        Room after = new Room(frame);
        Check.due("objects of a used frame", after.objects, before.objects);
        Check.due("fields and elements of a used frame", after.cells, before.cells);
        Check.finish();
    }

    private static void useAll(InterlockingFrame frame) {
        Check.parse(frame, "levers 12;0 locks 1;2 releases 3;4 holds 5;route 0;route 1;route 6 7;conflict 0 1;conflict 0 2;");
        for (int round = 0; round < 12; round++) {
            frame.addRule(0, round, (round + 1) % 12, -1);
            frame.moveLever(round);
            frame.distance(0, 1 << round);
            frame.isMergeable(round, 11 - round);
            frame.proposedLock(round % 2);
            frame.testLength(round);
        }
        frame.completionSize();
        frame.leversAfterMerging();
        frame.reducedSheet();
        Check.parse(frame, "levers 12;route");
        frame.undo();
    }

    /** What is kept by an object, itself with all that it refers to. */
    private static final class Room {
        int objects = 0;
        int cells = 0;
        private final Set<Object> seen = Collections.newSetFromMap(new IdentityHashMap<>());
        private final Deque<Object> waiting = new ArrayDeque<>();

        Room(Object root) throws IllegalAccessException {
            find(root);
            while (!waiting.isEmpty()) {
                Object object = waiting.pop();
                objects++;
                if (object.getClass().isArray()) {
                    cells += Array.getLength(object);
                    Check.holds("an array of numbers", object.getClass().getComponentType().isPrimitive());
                } else {
                    countFields(object);
                }
            }
        }

        private void find(Object object) {
            if (object != null && seen.add(object)) {
                waiting.push(object);
            }
        }

        private void countFields(Object object) throws IllegalAccessException {
            for (Field field : object.getClass().getDeclaredFields()) {
                if (Modifier.isStatic(field.getModifiers())) {
                    continue;
                }
                cells++;
                field.setAccessible(true);
                if (!field.getType().isPrimitive()) {
                    find(field.get(object));
                }
            }
        }
    }
}
