import java.util.ArrayList;
import java.util.List;
import java.util.function.ToIntFunction;

/** A frame that is made anew, with the same sheet and the same changes, when its 512 calls are used up. */
final class FrameInUse {
    private static final int MOST_CALLS = 512;

    private final String sheet;
    private final List<ToIntFunction<InterlockingFrame>> changes = new ArrayList<>();
    private InterlockingFrame frame;
    private int callsLeft;

    FrameInUse(String sheet) {
        this.sheet = sheet;
        makeAnew();
    }

    /** The frame, for one call that changes nothing. */
    InterlockingFrame ask() {
        if (callsLeft == 0) {
            makeAnew();
        }
        callsLeft--;
        return frame;
    }

    int change(ToIntFunction<InterlockingFrame> call) {
        int answer = call.applyAsInt(ask());
        changes.add(call);
        return answer;
    }

    private void makeAnew() {
        frame = Check.frame(sheet);
        changes.forEach(call -> call.applyAsInt(frame));
        int callsOfSheet = (sheet.length() + 19) / 20 + 1;
        callsLeft = MOST_CALLS - callsOfSheet - changes.size();
    }
}
