import java.io.IOException;
import java.lang.reflect.Method;
import java.nio.file.Files;
import java.nio.file.Path;
import java.util.Arrays;
import java.util.regex.Matcher;
import java.util.regex.Pattern;

/** The calls that README.md shows answer what it says. */
public final class ReadmeTest {
    private static final Pattern CALL = Pattern.compile("frame\\.(\\w+)\\((.*)\\); +// answers (-?\\w+).*");
    private static final Pattern NEW = Pattern.compile("InterlockingFrame frame = new InterlockingFrame\\(\\);.*");
    private static final Pattern TEXT = Pattern.compile(".*\"(.*)\".*");
    private static final int CALLS = 13;

    private static InterlockingFrame frame = new InterlockingFrame();
    private static String sheet = "";
    private static int made = 0;

    public static void main(String[] args) throws IOException, ReflectiveOperationException {
        for (String line : Files.readAllLines(Path.of("README.md"))) {
            Matcher call = CALL.matcher(line);
            Matcher text = TEXT.matcher(line);
            if (NEW.matcher(line).matches()) {
                frame = new InterlockingFrame();
            } else if (text.matches()) {
                sheet += text.group(1);
            } else if (line.contains("frame.appendBytes(")) {
                Check.append(frame, sheet.getBytes());
            } else if (call.matches()) {
                check(line, call);
            }
        }
        Check.due("calls with their answers", made, CALLS);
        Check.finish();
    }

    private static void check(String line, Matcher call) throws ReflectiveOperationException {
        int[] numbers = Arrays.stream(call.group(2).split(", ")).filter(part -> !part.isEmpty())
                .mapToInt(ReadmeTest::number).toArray();
        Class<?>[] types = new Class<?>[numbers.length];
        Arrays.fill(types, int.class);
        Method method = InterlockingFrame.class.getMethod(call.group(1), types);
        Object[] arguments = Arrays.stream(numbers).boxed().toArray();
        Check.due(line, (Integer) method.invoke(frame, arguments), number(call.group(3)));
        made++;
    }

    private static int number(String written) {
        if (written.matches("-?\\d+")) {
            return Integer.parseInt(written);
        }
        try {
            return InterlockingFrame.class.getField(written.replace("InterlockingFrame.", "")).getInt(null);
        } catch (ReflectiveOperationException missing) {
            throw new IllegalArgumentException(written, missing);
        }
    }
}
