import java.lang.reflect.InvocationTargetException;
import java.lang.reflect.Method;
import java.lang.reflect.Modifier;
import java.util.Arrays;
import java.util.Comparator;

/** No call throws, whatever its arguments, and a call that refuses changes nothing. */
public final class AnyArgumentsTest {
    private static final int[] VALUES = {Integer.MIN_VALUE, Integer.MIN_VALUE + 1, -65536, -33, -6, -2, -1, 0, 1, 2, 3, 4, 5,
        7, 8, 9, 11, 12, 13, 20, 23, 24, 25, 31, 32, 33, 63, 64, 255, 900, 901, 4095, 4096, 65536, Integer.MAX_VALUE};

    public static void main(String[] args) throws IllegalAccessException {
        String full = "levers 12;" + "0 locks 1;1 releases 2;2 holds 3 when 4 normal;".repeat(8)
                + "route 0 2 4;route 1;route 3 5 7 9 11;route 11;route 10;route 9;route 8;route 7;"
                + "conflict 0 1;conflict 1 2;conflict 2 3;conflict 3 4;conflict 4 5;conflict 5 6;conflict 6 7;conflict 7 0;";
        for (String sheet : new String[] {"levers 2;", "levers 3;0 locks 1;route 2;route 0 1;conflict 0 1;", full}) {
            tryAll(sheet);
        }
        Check.finish();
    }

    private static void tryAll(String sheet) throws IllegalAccessException {
        Method[] methods = InterlockingFrame.class.getDeclaredMethods();
        Arrays.sort(methods, Comparator.comparing(Method::getName));
        Numbers numbers = new Numbers(sheet.length());
        for (Method method : methods) {
            if (!Modifier.isPublic(method.getModifiers())) {
                continue;
            }
            for (int round = 0; round < 70; round++) {
                Object[] arguments = new Object[method.getParameterCount()];
                for (int at = 0; at < arguments.length; at++) {
                    int choice = at == 0 && round < VALUES.length ? round : numbers.below(VALUES.length);
                    arguments[at] = VALUES[choice];
                }
                call(usedFrame(sheet, numbers), method, arguments);
            }
        }
    }

    /** Made anew for each call, as the looks at its contents count among its 512 calls. */
    private static InterlockingFrame usedFrame(String sheet, Numbers numbers) {
        InterlockingFrame frame = Check.frame(sheet);
        for (int move = numbers.below(15); move > 0; move--) {
            frame.moveLever(numbers.below(frame.leverCount()));
        }
        frame.removeRule(numbers.below(24));
        frame.appendBytes(0x6C657665, 0x72732034, 0x3B30206C, 0x6F636B73, 0x20333B20);
        return frame;
    }

    private static void call(InterlockingFrame frame, Method method, Object[] arguments) throws IllegalAccessException {
        String before = Check.contents(frame);
        String name = method.getName() + Arrays.toString(arguments);
        try {
            int answer = (Integer) method.invoke(frame, arguments);
            if (answer <= InterlockingFrame.NO_SUCH && answer >= InterlockingFrame.BLOCKED) {
                Check.holds(name + " refuses and changes nothing", before.equals(Check.contents(frame)));
            }
        } catch (InvocationTargetException thrown) {
            Check.holds(name + " threw " + thrown.getCause(), false);
        }
    }
}
