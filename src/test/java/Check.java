import java.nio.charset.StandardCharsets;
import java.util.Arrays;

/** What the tests share: comparing answers, and giving a frame its sheet. */
final class Check {
    private static int wrong = 0;
    private static int asked = 0;

    private Check() {
    }

    static void due(String call, long got, long want) {
        asked++;
        if (got != want) {
            wrong++;
            if (wrong <= 50) {
                System.out.println(call + " answered " + got + ", due is " + want);
            }
        }
    }

    static void holds(String what, boolean isSo) {
        due(what, isSo ? 1 : 0, 1);
    }

    static int wrongAnswers() {
        return wrong;
    }

    static void finish() {
        System.out.println(asked + " answers, " + wrong + " not as due");
        if (wrong != 0) {
            System.exit(1);
        }
    }

    /** Appends the text, filled up with zero bytes; answers its length. */
    static int append(InterlockingFrame frame, byte[] text) {
        for (int at = 0; at < text.length; at += 20) {
            byte[] part = Arrays.copyOf(Arrays.copyOfRange(text, at, Math.min(at + 20, text.length)), 20);
            frame.appendBytes(word(part, 0), word(part, 4), word(part, 8), word(part, 12), word(part, 16));
        }
        return text.length;
    }

    static int parse(InterlockingFrame frame, String sheet) {
        return frame.parseSheet(append(frame, sheet.getBytes(StandardCharsets.ISO_8859_1)));
    }

    /** A frame with the sheet, which must be without error. */
    static InterlockingFrame frame(String sheet) {
        InterlockingFrame frame = new InterlockingFrame();
        long statements = sheet.chars().filter(sign -> sign == ';').count();
        due("parseSheet of " + sheet, parse(frame, sheet), statements);
        return frame;
    }

    /** The sheet is in error: its code and offset are due, and nothing but the buffer changes. */
    static void error(String sheet, int code, int offset) {
        InterlockingFrame frame = frame("levers 3;0 locks 1;route 0 2;route 1;conflict 1 0;");
        frame.moveLever(2);
        due("parseSheet of " + sheet, parse(frame, sheet), -30 - code);
        due("parseError of " + sheet, frame.parseError(), code);
        due("parseErrorOffset of " + sheet, frame.parseErrorOffset(), offset);
        due("bufferLength after " + sheet, frame.bufferLength(), 0);
        due("leverCount after " + sheet, frame.leverCount(), 3);
        due("ruleCount after " + sheet, frame.ruleCount(), 1);
        due("routeCount after " + sheet, frame.routeCount(), 2);
        due("conflictCount after " + sheet, frame.conflictCount(), 1);
        due("currentState after " + sheet, frame.currentState(), 4);
        due("undo after " + sheet, frame.undo(), 0);
    }

    /** What a frame says of itself without a search. */
    static String contents(InterlockingFrame frame) {
        StringBuilder contents = new StringBuilder();
        contents.append(frame.leverCount()).append(" levers, state ").append(frame.currentState());
        contents.append(", ").append(frame.bufferLength()).append(" bytes, error ").append(frame.parseError());
        contents.append('/').append(frame.parseErrorOffset()).append(", conflicts ").append(frame.conflictCount());
        for (int rule = 0; rule < frame.ruleCount(); rule++) {
            contents.append(", rule ").append(frame.ruleKind(rule)).append('/').append(frame.ruleLevers(rule));
            contents.append('/').append(frame.ruleCondition(rule));
        }
        for (int route = 0; route < frame.routeCount(); route++) {
            contents.append(", route ").append(frame.routeLevers(route));
        }
        return contents.toString();
    }

    private static int word(byte[] bytes, int at) {
        return (bytes[at] & 255) << 24 | (bytes[at + 1] & 255) << 16 | (bytes[at + 2] & 255) << 8 | bytes[at + 3] & 255;
    }
}
