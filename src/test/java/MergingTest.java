/** Promises 40 to 42: merging levers. */
public final class MergingTest {
    public static void main(String[] args) {
        checkEqualLeversInARule();
        checkConditionLever();
        checkRoutes();
        checkConflicts();
        checkNotSettableAnyway();
        checkMergingAll();
        checkMeasureIsTheOriginal();
        checkFrameDoesNotChange();
        checkWrongInputs();
        Check.finish();
    }

    private static void checkEqualLeversInARule() {
        Check.due("lock", Check.frame("levers 3;0 locks 1;").mergedReachableCount(0, 1), 2);
        Check.due("conditional lock", Check.frame("levers 3;0 locks 1 when 2 normal;").mergedReachableCount(0, 1), 3);
        Check.due("release", Check.frame("levers 3;0 releases 1;").mergedReachableCount(0, 1), 4);
        Check.due("release", Check.frame("levers 3;1 releases 0;").mergedReachableCount(0, 1), 4);
        Check.due("hold", Check.frame("levers 3;0 holds 1;").mergedReachableCount(0, 1), 4);
        // A hold by the lever itself must not keep it from going back.
        InterlockingFrame held = Check.frame("levers 3;0 holds 1;2 releases 0;0 locks 2 when 1 reversed;route 0;");
        Check.due("hold and release", held.mergedReachableCount(1, 0), 2);
    }

    private static void checkConditionLever() {
        // 0 locks 1 when 0 reversed: as if there were no condition.
        Check.due("lock", Check.frame("levers 3;0 locks 1 when 2 reversed;").mergedReachableCount(0, 2), 3);
        // 0 locks 1 when 0 normal: never.
        Check.due("lock", Check.frame("levers 3;0 locks 1 when 2 normal;").mergedReachableCount(0, 2), 4);
        // 0 releases 1 when 0 reversed: never. 0 releases 1 when 1 reversed: as without a condition.
        Check.due("release", Check.frame("levers 3;0 releases 1 when 2 reversed;").mergedReachableCount(0, 2), 4);
        Check.due("release", Check.frame("levers 3;0 releases 1 when 2 reversed;").mergedReachableCount(1, 2), 3);
        // 0 holds 1 when 1 reversed: lever 1 goes over but not back.
        InterlockingFrame held = Check.frame("levers 3;0 holds 1 when 2 normal;0 releases 1;");
        Check.due("hold", held.mergedReachableCount(1, 2), 2);
        InterlockingFrame open = Check.frame("levers 3;0 holds 1 when 2 reversed;0 releases 1;");
        Check.due("hold", open.mergedReachableCount(1, 2), 3);
    }

    private static void checkRoutes() {
        InterlockingFrame frame = Check.frame("levers 4;0 locks 1;route 0;route 1 2;");
        Check.due("isMergeable(0, 1)", frame.isMergeable(0, 1), 0);
        Check.due("isMergeable(0, 2)", frame.isMergeable(0, 2), 0);
        Check.due("isMergeable(1, 2)", frame.isMergeable(1, 2), 1);
        Check.due("isMergeable(2, 1)", frame.isMergeable(2, 1), 1);
        Check.due("isMergeable(0, 3)", frame.isMergeable(0, 3), 1);
        Check.due("mergedReachableCount(0, 1)", frame.mergedReachableCount(0, 1), 4);
        Check.due("mergedReachableCount(1, 2)", frame.mergedReachableCount(1, 2), 6);
        Check.due("mergedReachableCount(2, 1)", frame.mergedReachableCount(2, 1), 6);
        Check.due("mergedReachableCount(3, 2)", frame.mergedReachableCount(3, 2), 6);
    }

    private static void checkConflicts() {
        // Route 0 excludes route 1 by way of the levers 0 and 2; a merge of 0 and 3 keeps that, one of 0 and 1 does not.
        InterlockingFrame frame = Check.frame("levers 4;0 locks 2 when 1 normal;0 locks 1;route 0;route 2;conflict 0 1;");
        Check.due("unprotectedConflicts", frame.unprotectedConflicts(), 0);
        Check.due("isMergeable(0, 3)", frame.isMergeable(0, 3), 1);
        Check.due("isMergeable(1, 2)", frame.isMergeable(1, 2), 1);
        Check.due("isMergeable(0, 2)", frame.isMergeable(0, 2), 0);
        InterlockingFrame lost = Check.frame("levers 4;0 locks 2 when 1 normal;0 locks 2 when 1 reversed;"
                + "route 0;route 2;conflict 0 1;");
        Check.due("isMergeable(0, 1)", lost.isMergeable(0, 1), 1);
        InterlockingFrame open = Check.frame("levers 4;0 locks 2 when 1 normal;2 locks 0 when 3 reversed;1 releases 3;"
                + "3 releases 1;route 0;route 2;conflict 0 1;");
        Check.due("unprotectedConflicts", open.unprotectedConflicts(), 0);
        Check.due("a conflict is no longer protected", open.isMergeable(0, 1), 0);
        InterlockingFrame never = Check.frame("levers 3;route 0;route 1;conflict 0 1;");
        Check.due("a conflict was not protected before", never.isMergeable(0, 1), 1);
    }

    private static void checkNotSettableAnyway() {
        InterlockingFrame frame = Check.frame("levers 3;0 locks 1;route 0 1;route 2;");
        Check.due("isMergeable(0, 1)", frame.isMergeable(0, 1), 1);
        Check.due("isMergeable(0, 2)", frame.isMergeable(0, 2), 1);
    }

    private static void checkMergingAll() {
        Check.due("leversAfterMerging", Check.frame("levers 12;").leversAfterMerging(), 1);
        Check.due("leversAfterMerging", Check.frame("levers 12;0 locks 11;").leversAfterMerging(), 1);
        Check.due("leversAfterMerging", Check.frame("levers 12;0 locks 11;route 0;route 11;").leversAfterMerging(), 2);
        Check.due("leversAfterMerging", Check.frame("levers 4;0 locks 1;1 locks 2;0 locks 2;0 locks 3;1 locks 3;"
                + "2 locks 3;route 0;route 1;route 2;route 3;").leversAfterMerging(), 4);
        InterlockingFrame frame = Check.frame("levers 4;0 locks 1;route 0;route 1 2;");
        Check.due("leversAfterMerging", frame.leversAfterMerging(), 2);
        frame.removeRule(0);
        Check.due("leversAfterMerging", frame.leversAfterMerging(), 1);
        frame.undo();
        Check.due("leversAfterMerging", frame.leversAfterMerging(), 2);
    }

    /** The conflict is protected at first; no step may give that up, even if the one before had to look at it too. */
    private static void checkMeasureIsTheOriginal() {
        InterlockingFrame frame = Check.frame("levers 5;0 locks 1;2 locks 3;route 0 2;route 1 3;route 4;conflict 0 1;");
        Check.due("unprotectedConflicts", frame.unprotectedConflicts(), 0);
        Check.due("isMergeable(0, 2)", frame.isMergeable(0, 2), 1);
        Check.due("leversAfterMerging", frame.leversAfterMerging(), 2);
    }

    private static void checkFrameDoesNotChange() {
        InterlockingFrame frame = Check.frame("levers 4;0 locks 1;2 releases 3;route 0 3;route 1;conflict 0 1;");
        frame.moveLever(0);
        frame.leversAfterMerging();
        frame.isMergeable(0, 3);
        frame.mergedReachableCount(1, 3);
        Check.due("currentState", frame.currentState(), 1);
        Check.due("leverCount", frame.leverCount(), 4);
        Check.due("ruleLevers(1)", frame.ruleLevers(1), 203);
        Check.due("routeLevers(0)", frame.routeLevers(0), 9);
        Check.due("reachableCount", frame.reachableCount(), 9);
        Check.due("undo", frame.undo(), 0);
    }

    private static void checkWrongInputs() {
        InterlockingFrame frame = Check.frame("levers 3;");
        for (int none : new int[] {Integer.MIN_VALUE, -1, 3, 12, 32, Integer.MAX_VALUE}) {
            Check.due("isMergeable 0, " + none, frame.isMergeable(0, none), -2);
            Check.due("isMergeable " + none, frame.isMergeable(none, 0), -2);
            Check.due("no lever before equal levers", frame.isMergeable(none, none), -2);
            Check.due("mergedReachableCount 0, " + none, frame.mergedReachableCount(0, none), -2);
            Check.due("mergedReachableCount " + none, frame.mergedReachableCount(none, 0), -2);
            Check.due("no lever before equal levers", frame.mergedReachableCount(none, none), -2);
        }
        Check.due("isMergeable(2, 2)", frame.isMergeable(2, 2), -3);
        Check.due("mergedReachableCount(2, 2)", frame.mergedReachableCount(2, 2), -3);
    }
}
