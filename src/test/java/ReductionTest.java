/** Promises 36 to 39: implied rules, the reduced sheet and tests. */
public final class ReductionTest {
    public static void main(String[] args) {
        checkTwins();
        checkUnreachableRule();
        checkKept();
        checkDroppedTogether();
        checkFewerStatesThanBefore();
        checkEveryStateReached();
        checkTestOfEachKind();
        checkTestIsShortest();
        checkTestIsFirst();
        checkTestGoesBack();
        checkAllRules();
        checkWrongInputs();
        Check.finish();
    }

    private static void checkTwins() {
        InterlockingFrame frame = Check.frame("levers 3;0 locks 1;2 holds 1;1 locks 0;2 holds 1;");
        for (int rule = 0; rule < 4; rule++) {
            Check.due("isImplied " + rule, frame.isImplied(rule), 1);
            Check.due("testLength " + rule, frame.testLength(rule), -1);
            Check.due("testMove " + rule, frame.testMove(rule, 0), -1);
        }
        Check.due("reducedSheet", frame.reducedSheet(), 3);
        frame.removeRule(0);
        Check.due("isImplied(0) after removal", frame.isImplied(0), 1);
        Check.due("isImplied(1) after removal", frame.isImplied(1), 0);
        Check.due("reducedSheet after removal", frame.reducedSheet(), 3);
        frame.undo();
        Check.due("reducedSheet after undo", frame.reducedSheet(), 3);
    }

    private static void checkUnreachableRule() {
        // Lever 1 can never be reversed, so what it does has no effect.
        InterlockingFrame frame = Check.frame("levers 4;1 releases 2;2 releases 1;1 locks 0;1 holds 3;1 releases 3;");
        Check.due("isImplied(0)", frame.isImplied(0), 0);
        Check.due("isImplied(1)", frame.isImplied(1), 0);
        Check.due("isImplied(2)", frame.isImplied(2), 1);
        Check.due("isImplied(3)", frame.isImplied(3), 1);
        Check.due("isImplied(4)", frame.isImplied(4), 0);
        Check.due("reducedSheet", frame.reducedSheet(), 19);
    }

    private static void checkKept() {
        // The same states can be reached without the hold, but not by the same moves.
        InterlockingFrame frame = Check.frame("levers 2;0 holds 1;");
        Check.due("isImplied", frame.isImplied(0), 0);
        Check.due("reducedSheet", frame.reducedSheet(), 1);
        Check.due("reducedSheet", new InterlockingFrame().reducedSheet(), 0);
    }

    private static void checkFewerStatesThanBefore() {
        // When levers 0 and 1 need each other first, the lock is missed only in states that were reachable before.
        InterlockingFrame frame = Check.frame("levers 2;0 locks 1;");
        Check.due("isImplied(0) at first", frame.isImplied(0), 0);
        Check.due("testLength(0) at first", frame.testLength(0), 2);
        frame.addRule(1, 0, 1, -1);
        frame.addRule(1, 1, 0, -1);
        Check.due("reachableCount", frame.reachableCount(), 1);
        Check.due("isImplied(0)", frame.isImplied(0), 1);
        Check.due("testLength(0)", frame.testLength(0), -1);
        Check.due("testMove(0, 0)", frame.testMove(0, 0), -1);
        Check.due("reducedSheet", frame.reducedSheet(), 6);
        frame.removeRule(2);
        Check.due("isImplied(0) without the last", frame.isImplied(0), 0);
        Check.due("testLength(0) without the last", frame.testLength(0), 2);
    }

    private static void checkEveryStateReached() {
        InterlockingFrame frame = Check.frame("levers 12;0 holds 11;0 holds 11;");
        Check.due("reachableCount", frame.reachableCount(), 4096);
        Check.due("isImplied(0)", frame.isImplied(0), 1);
        Check.due("testLength(1)", frame.testLength(1), -1);
        Check.due("reducedSheet", frame.reducedSheet(), 1);
    }

    private static void checkDroppedTogether() {
        // Each of the three is implied by the others; only the two highest can be dropped, and rule 0 is the lock.
        InterlockingFrame frame = Check.frame("levers 3;0 locks 1;1 locks 0 when 2 normal;1 locks 0 when 2 reversed;");
        Check.due("isImplied(0)", frame.isImplied(0), 1);
        Check.due("isImplied(1)", frame.isImplied(1), 1);
        Check.due("isImplied(2)", frame.isImplied(2), 1);
        Check.due("reducedSheet", frame.reducedSheet(), 1);
        InterlockingFrame turned = Check.frame("levers 3;1 locks 0 when 2 normal;1 locks 0 when 2 reversed;0 locks 1;");
        Check.due("reducedSheet", turned.reducedSheet(), 3);
    }

    private static void checkTest(InterlockingFrame frame, int rule, int... moves) {
        Check.due("testLength", frame.testLength(rule), moves.length);
        for (int index = 0; index < moves.length; index++) {
            Check.due("testMove " + rule + ", " + index, frame.testMove(rule, index), moves[index]);
        }
        Check.due("testMove behind the end", frame.testMove(rule, moves.length), -1);
        Check.due("testMove far behind the end", frame.testMove(rule, Integer.MAX_VALUE), -1);
    }

    private static void checkTestOfEachKind() {
        InterlockingFrame frame = Check.frame("levers 4;1 locks 3;2 releases 1;3 holds 2 when 0 reversed;");
        checkTest(frame, 0, 2, 1, 3);
        checkTest(frame, 1, 1);
        checkTest(frame, 2, 0, 3, 2);
        Check.due("isImplied(0)", frame.isImplied(0), 0);
    }

    private static void checkTestIsShortest() {
        // A test that begins with lever 0 would come first, but it takes three moves.
        InterlockingFrame frame = Check.frame("levers 3;1 locks 2;0 holds 1;");
        checkTest(frame, 0, 1, 2);
        InterlockingFrame back = Check.frame("levers 3;0 releases 1;");
        checkTest(back, 0, 1);
        InterlockingFrame normal = Check.frame("levers 3;0 releases 1;0 releases 1 when 2 normal;2 holds 1;2 releases 0;");
        checkTest(normal, 3, 0);
        Check.due("isImplied(0)", normal.isImplied(0), 1);
        Check.due("testLength(0)", normal.testLength(0), -1);
    }

    private static void checkTestIsFirst() {
        // The levers may be moved in any order; the test takes the lowest first.
        InterlockingFrame frame = Check.frame("levers 4;0 locks 2;");
        checkTest(frame, 0, 0, 2);
        InterlockingFrame three = Check.frame("levers 4;3 locks 1 when 2 reversed;");
        checkTest(three, 0, 1, 2, 3);
        InterlockingFrame released = Check.frame("levers 4;3 locks 1 when 2 reversed;3 releases 1;3 releases 2;");
        checkTest(released, 0, 3, 1, 2);
    }

    /** The test ends with a lever that would go back to normal. */
    private static void checkTestGoesBack() {
        InterlockingFrame frame = Check.frame("levers 2;0 releases 1;1 holds 0;");
        checkTest(frame, 0, 1);
        Check.due("the release alone forbids the same", frame.testLength(1), -1);
        frame.addRule(2, 0, 1, -1);
        checkTest(frame, 2, 0, 1);
        InterlockingFrame held = Check.frame("levers 3;2 holds 1;1 releases 2 when 0 normal;0 holds 2;");
        checkTest(held, 0, 1, 2, 0, 1);
    }

    private static void checkAllRules() {
        StringBuilder sheet = new StringBuilder("levers 12;");
        for (int lever = 0; lever < 12; lever++) {
            sheet.append(lever).append(" locks ").append((lever + 1) % 12).append(';');
        }
        for (int lever = 0; lever < 12; lever++) {
            sheet.append((lever + 1) % 12).append(" locks ").append(lever).append(';');
        }
        InterlockingFrame frame = Check.frame(sheet.toString());
        Check.due("reducedSheet of 24 rules", frame.reducedSheet(), 4095);
        Check.due("isImplied(23)", frame.isImplied(23), 1);
        frame.removeRule(11);
        Check.due("isImplied(22)", frame.isImplied(22), 0);
        checkTest(frame, 22, 0, 11);
    }

    private static void checkWrongInputs() {
        InterlockingFrame frame = Check.frame("levers 2;0 locks 1;");
        for (int none : new int[] {Integer.MIN_VALUE, -1, 1, 24, 32, Integer.MAX_VALUE}) {
            Check.due("isImplied " + none, frame.isImplied(none), -2);
            Check.due("testLength " + none, frame.testLength(none), -2);
            Check.due("testMove " + none, frame.testMove(none, 0), -2);
            Check.due("no rule before bad index " + none, frame.testMove(none, -1), -2);
        }
        Check.due("testMove(0, -1)", frame.testMove(0, -1), -3);
        Check.due("testMove(0, MIN)", frame.testMove(0, Integer.MIN_VALUE), -3);
    }
}
