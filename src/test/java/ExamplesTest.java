/** Examples 1 to 4 of the document. */
public final class ExamplesTest {
    public static void main(String[] args) {
        example1();
        example2();
        example3();
        example4();
        Check.finish();
    }

    private static void example1() {
        InterlockingFrame frame = new InterlockingFrame();
        Check.due("1: moveLever(1)", frame.moveLever(1), 2);
        Check.due("1: currentState()", frame.currentState(), 2);
        Check.due("1: addRule(0, 0, 1, -1)", frame.addRule(0, 0, 1, -1), 1);
        Check.due("1: moveLever(0)", frame.moveLever(0), -6);
        Check.due("1: blockingRule(2, 0)", frame.blockingRule(2, 0), 0);
        Check.due("1: undo()", frame.undo(), 1);
    }

    private static void example2() {
        InterlockingFrame frame = new InterlockingFrame();
        Check.due("2: addRule(0, 0, 1, -1)", frame.addRule(0, 0, 1, -1), 1);
        Check.due("2: reachableCount()", frame.reachableCount(), 3);
        Check.due("2: distance(1, 2)", frame.distance(1, 2), 2);
        Check.due("2: nextMove(1, 2)", frame.nextMove(1, 2), 0);
        Check.due("2: testLength(0)", frame.testLength(0), 2);
        Check.due("2: testMove(0, 1)", frame.testMove(0, 1), 1);
    }

    private static void example3() {
        InterlockingFrame frame = new InterlockingFrame();
        Check.due("3: addRule(0, 0, 1, -1)", frame.addRule(0, 0, 1, -1), 1);
        Check.due("3: addRule(0, 1, 0, -1)", frame.addRule(0, 1, 0, -1), 2);
        Check.due("3: isImplied(0)", frame.isImplied(0), 1);
        Check.due("3: isImplied(1)", frame.isImplied(1), 1);
        Check.due("3: reducedSheet()", frame.reducedSheet(), 1);
        Check.due("3: addRule(0, 0, 0, -1)", frame.addRule(0, 0, 0, -1), -3);
    }

    private static void example4() {
        InterlockingFrame frame = new InterlockingFrame();
        Check.due("4: addRule(2, 0, 1, -1)", frame.addRule(2, 0, 1, -1), 1);
        Check.due("4: reachableCount()", frame.reachableCount(), 4);
        Check.due("4: distance(1, 3)", frame.distance(1, 3), 3);
        Check.due("4: isMergeable(0, 1)", frame.isMergeable(0, 1), 1);
        Check.due("4: leversAfterMerging()", frame.leversAfterMerging(), 1);
        Check.due("4: ruleKind(1)", frame.ruleKind(1), -2);
    }
}
