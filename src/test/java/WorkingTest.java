/** Promises 15 to 19: working the frame. */
public final class WorkingTest {
    public static void main(String[] args) {
        checkMoves();
        checkAddRule();
        checkOrderOfErrors();
        checkFull();
        checkBlocked();
        checkRemoveRule();
        checkUndo();
        checkUndoForgets();
        checkFailuresAreNotRemembered();
        Check.finish();
    }

    private static void checkMoves() {
        InterlockingFrame frame = Check.frame("levers 3;0 locks 1;2 releases 0;1 holds 2 when 0 normal;");
        Check.due("moveLever(0) unreleased", frame.moveLever(0), -6);
        Check.due("moveLever(2)", frame.moveLever(2), 4);
        Check.due("moveLever(0)", frame.moveLever(0), 5);
        Check.due("moveLever(1) locked", frame.moveLever(1), -6);
        Check.due("moveLever(2) back locked", frame.moveLever(2), -6);
        Check.due("moveLever(0) back", frame.moveLever(0), 4);
        Check.due("moveLever(1)", frame.moveLever(1), 6);
        Check.due("moveLever(2) held", frame.moveLever(2), -6);
        Check.due("moveLever(1) back", frame.moveLever(1), 4);
        Check.due("currentState", frame.currentState(), 4);
        for (int lever : new int[] {-1, 3, 12, 31, 32, Integer.MIN_VALUE, Integer.MAX_VALUE}) {
            Check.due("moveLever " + lever, frame.moveLever(lever), -2);
        }
        Check.due("currentState", frame.currentState(), 4);
        frame.isLegal(3);
        frame.blockingRule(1, 0);
        frame.freeLevers(2);
        frame.distance(0, 4);
        frame.nextMove(4, 0);
        Check.due("currentState after asking", frame.currentState(), 4);
    }

    private static void checkAddRule() {
        InterlockingFrame frame = Check.frame("levers 4;");
        Check.due("addRule", frame.addRule(0, 3, 2, -1), 1);
        Check.due("addRule", frame.addRule(1, 0, 1, 7), 2);
        Check.due("addRule", frame.addRule(2, 2, 0, 6), 3);
        Check.due("ruleKind(2)", frame.ruleKind(2), 2);
        Check.due("ruleLevers(1)", frame.ruleLevers(1), 1);
        Check.due("ruleCondition(0)", frame.ruleCondition(0), -1);
        Check.due("ruleCondition(1)", frame.ruleCondition(1), 7);
        Check.due("addRule lever -1", frame.addRule(0, -1, 1, -1), -2);
        Check.due("addRule lever 4", frame.addRule(0, 1, 4, -1), -2);
        Check.due("addRule condition lever 4", frame.addRule(0, 1, 2, 8), -2);
        Check.due("addRule condition lever MAX", frame.addRule(0, 1, 2, Integer.MAX_VALUE), -2);
        Check.due("addRule kind -1", frame.addRule(-1, 1, 2, -1), -3);
        Check.due("addRule kind 3", frame.addRule(3, 1, 2, -1), -3);
        Check.due("addRule condition -2", frame.addRule(0, 1, 2, -2), -3);
        Check.due("addRule condition MIN", frame.addRule(0, 1, 2, Integer.MIN_VALUE), -3);
        Check.due("addRule equal levers", frame.addRule(0, 1, 1, -1), -3);
        Check.due("addRule condition lever is A", frame.addRule(0, 1, 2, 2), -3);
        Check.due("addRule condition lever is A", frame.addRule(0, 1, 2, 3), -3);
        Check.due("addRule condition lever is B", frame.addRule(0, 1, 2, 4), -3);
        Check.due("addRule condition lever is B", frame.addRule(0, 1, 2, 5), -3);
        Check.due("ruleCount", frame.ruleCount(), 3);
    }

    private static void checkOrderOfErrors() {
        InterlockingFrame frame = Check.frame("levers 3;" + "0 locks 1;".repeat(24));
        frame.moveLever(2);
        Check.due("no lever before bad kind", frame.addRule(5, 3, 1, -1), -2);
        Check.due("no lever before bad condition", frame.addRule(0, 3, 1, -7), -2);
        Check.due("no lever before equal levers", frame.addRule(0, 3, 3, -1), -2);
        Check.due("no condition lever before equal levers", frame.addRule(0, 1, 1, 6), -2);
        Check.due("bad kind before full", frame.addRule(5, 0, 1, -1), -3);
        Check.due("equal levers before full", frame.addRule(0, 1, 1, -1), -3);
        Check.due("full before blocked", frame.addRule(1, 0, 2, -1), -4);
    }

    private static void checkFull() {
        InterlockingFrame frame = new InterlockingFrame();
        for (int rule = 1; rule <= 24; rule++) {
            Check.due("addRule", frame.addRule(2, 0, 1, -1), rule);
        }
        Check.due("addRule beyond 24", frame.addRule(2, 0, 1, -1), -4);
        Check.due("ruleCount", frame.ruleCount(), 24);
        Check.due("removeRule", frame.removeRule(23), 23);
        Check.due("addRule", frame.addRule(2, 1, 0, -1), 24);
        Check.due("undo", frame.undo(), 11);
        Check.due("undo", frame.undo(), 10);
        Check.due("ruleCount", frame.ruleCount(), 24);
        Check.due("ruleLevers", frame.ruleLevers(23), 1);
    }

    private static void checkBlocked() {
        InterlockingFrame frame = Check.frame("levers 4;");
        frame.moveLever(0);
        frame.moveLever(1);
        Check.due("lock against the current state", frame.addRule(0, 0, 1, -1), -6);
        Check.due("the same, active", frame.addRule(0, 1, 0, 4), -6);
        Check.due("the same, not active", frame.addRule(0, 1, 0, 5), 1);
        Check.due("release against the current state", frame.addRule(1, 2, 0, -1), -6);
        Check.due("the same, not active", frame.addRule(1, 2, 0, 7), 2);
        Check.due("release the other way", frame.addRule(1, 0, 2, -1), 3);
        Check.due("hold", frame.addRule(2, 0, 1, -1), 4);
        Check.due("moveLever held", frame.moveLever(1), -6);
        Check.due("ruleCount", frame.ruleCount(), 4);
    }

    private static void checkRemoveRule() {
        InterlockingFrame frame = Check.frame("levers 3;0 locks 1;1 locks 2;2 locks 0;");
        Check.due("removeRule(3)", frame.removeRule(3), -2);
        Check.due("removeRule(-1)", frame.removeRule(-1), -2);
        Check.due("removeRule(MIN)", frame.removeRule(Integer.MIN_VALUE), -2);
        Check.due("removeRule(MAX)", frame.removeRule(Integer.MAX_VALUE), -2);
        Check.due("removeRule(0)", frame.removeRule(0), 2);
        Check.due("ruleLevers(0)", frame.ruleLevers(0), 102);
        Check.due("ruleLevers(1)", frame.ruleLevers(1), 200);
        Check.due("removeRule(1)", frame.removeRule(1), 1);
        Check.due("removeRule(1)", frame.removeRule(1), -2);
        Check.due("removeRule(0)", frame.removeRule(0), 0);
        Check.due("removeRule(0)", frame.removeRule(0), -2);
    }

    private static void checkUndo() {
        InterlockingFrame frame = Check.frame("levers 3;0 locks 1;1 releases 2 when 0 reversed;2 holds 0;");
        Check.due("undo", frame.undo(), -5);
        Check.due("reachableCount", frame.reachableCount(), 5);
        Check.due("removeRule(1)", frame.removeRule(1), 2);
        Check.due("reachableCount", frame.reachableCount(), 6);
        Check.due("moveLever(0)", frame.moveLever(0), 1);
        Check.due("moveLever(2)", frame.moveLever(2), 5);
        Check.due("addRule", frame.addRule(2, 1, 0, -1), 3);
        Check.due("undo of addRule", frame.undo(), 3);
        Check.due("ruleCount", frame.ruleCount(), 2);
        Check.due("undo of moveLever", frame.undo(), 2);
        Check.due("currentState", frame.currentState(), 1);
        Check.due("undo of moveLever", frame.undo(), 1);
        Check.due("undo of removeRule", frame.undo(), 0);
        Check.due("ruleCount", frame.ruleCount(), 3);
        Check.due("ruleKind(1)", frame.ruleKind(1), 1);
        Check.due("ruleLevers(1)", frame.ruleLevers(1), 102);
        Check.due("ruleCondition(1)", frame.ruleCondition(1), 1);
        Check.due("ruleLevers(2)", frame.ruleLevers(2), 200);
        Check.due("reachableCount", frame.reachableCount(), 5);
        Check.due("undo", frame.undo(), -5);
    }

    private static void checkUndoForgets() {
        InterlockingFrame frame = new InterlockingFrame();
        frame.moveLever(0);
        for (int call = 0; call < 11; call++) {
            frame.moveLever(1);
        }
        frame.moveLever(0);
        Check.due("currentState", frame.currentState(), 2);
        for (int left = 11; left >= 0; left--) {
            Check.due("undo", frame.undo(), left);
        }
        Check.due("undo of a forgotten call", frame.undo(), -5);
        Check.due("currentState", frame.currentState(), 1);
    }

    private static void checkFailuresAreNotRemembered() {
        InterlockingFrame frame = new InterlockingFrame();
        frame.moveLever(0);
        frame.addRule(0, 0, 1, -1);
        frame.moveLever(1);
        frame.moveLever(7);
        frame.addRule(0, 0, 0, -1);
        frame.removeRule(4);
        Check.parse(frame, "levers 7");
        Check.due("undo", frame.undo(), 1);
        Check.due("ruleCount", frame.ruleCount(), 0);
        Check.due("undo", frame.undo(), 0);
        Check.due("currentState", frame.currentState(), 0);
        Check.due("undo", frame.undo(), -5);
    }
}
