/** Promises 27 to 35: routes and conflicts. */
public final class RoutesTest {
    private static final int[] NO_NUMBERS = {Integer.MIN_VALUE, -1, 8, 24, Integer.MAX_VALUE};

    public static void main(String[] args) {
        checkSetting();
        checkNearestIsLowest();
        checkNotSettable();
        checkJoint();
        checkConflicts();
        checkProposedLock();
        checkNoProposal();
        checkCompletion();
        checkCompletionBeyondFull();
        checkCompletionFails();
        checkLargestSet();
        checkFarthest();
        checkWrongInputs();
        Check.finish();
    }

    private static void checkSetting() {
        InterlockingFrame frame = Check.frame("levers 4;3 releases 0;0 holds 3;route 0;route 1 2;route 0 1 2 3;");
        Check.due("settingState(0)", frame.settingState(0), 9);
        Check.due("settingMoves(0)", frame.settingMoves(0), 2);
        Check.due("settingState(1)", frame.settingState(1), 6);
        Check.due("settingMoves(1)", frame.settingMoves(1), 2);
        Check.due("settingState(2)", frame.settingState(2), 15);
        Check.due("settingMoves(2)", frame.settingMoves(2), 4);
        frame.moveLever(3);
        Check.due("settingMoves is from home", frame.settingMoves(0), 2);
    }

    private static void checkNearestIsLowest() {
        // Lever 0 needs lever 1 or lever 3: the states 3 and 9 are equally near.
        InterlockingFrame low = Check.frame("levers 4;1 releases 0 when 3 normal;route 0;");
        Check.due("settingState", low.settingState(0), 3);
        // Lever 3 needs lever 0 or lever 2: the states 9 and 12 are equally near.
        InterlockingFrame high = Check.frame("levers 4;2 releases 3 when 0 normal;route 3;");
        Check.due("settingState", high.settingState(0), 9);
        // Lever 0 holds lever 3, so only the way by lever 1 is left.
        InterlockingFrame held = Check.frame("levers 4;1 releases 3 when 0 normal;0 holds 3;route 3;");
        Check.due("settingState", held.settingState(0), 10);
        Check.due("settingMoves", held.settingMoves(0), 2);
        // Lever 4 needs the levers 0 and 5 or the levers 1 and 2: the way to 49 comes first, but 22 is lower.
        InterlockingFrame late = Check.frame("levers 6;0 releases 4 when 1 normal;0 releases 4 when 2 normal;"
                + "5 releases 4 when 1 normal;5 releases 4 when 2 normal;route 4;");
        Check.due("settingState", late.settingState(0), 22);
        Check.due("settingMoves", late.settingMoves(0), 3);
    }

    private static void checkNotSettable() {
        InterlockingFrame frame = Check.frame("levers 3;0 locks 1;route 0 1;route 0 2;conflict 0 1;");
        Check.due("settingState(0)", frame.settingState(0), -1);
        Check.due("settingMoves(0)", frame.settingMoves(0), -1);
        Check.due("jointStates(0, 0)", frame.jointStates(0, 0), 0);
        Check.due("unprotectedConflicts", frame.unprotectedConflicts(), 0);
        Check.due("largestRouteSet", frame.largestRouteSet(), 2);
    }

    private static void checkJoint() {
        InterlockingFrame frame = Check.frame("levers 4;0 locks 3;route 0;route 1;route 3;route 0 1;");
        Check.due("jointStates(0, 0)", frame.jointStates(0, 0), 4);
        Check.due("jointStates(0, 1)", frame.jointStates(0, 1), 2);
        Check.due("jointStates(1, 0)", frame.jointStates(1, 0), 2);
        Check.due("jointStates(0, 2)", frame.jointStates(0, 2), 0);
        Check.due("jointStates(1, 3)", frame.jointStates(1, 3), 2);
        Check.due("jointStates(1, 1)", frame.jointStates(1, 1), 6);
        Check.due("jointStates(0, 4)", frame.jointStates(0, 4), -2);
        Check.due("jointStates(4, 0)", frame.jointStates(4, 0), -2);
    }

    private static void checkConflicts() {
        InterlockingFrame frame = Check.frame("levers 3;0 locks 1;route 0;route 1;route 2;"
                + "conflict 0 2;conflict 1 0;conflict 2 1;");
        Check.due("unprotectedConflicts", frame.unprotectedConflicts(), 5);
        frame.addRule(0, 2, 0, -1);
        Check.due("unprotectedConflicts", frame.unprotectedConflicts(), 4);
        frame.removeRule(0);
        Check.due("unprotectedConflicts", frame.unprotectedConflicts(), 6);
    }

    private static void checkProposedLock() {
        InterlockingFrame frame = Check.frame("levers 5;route 1 3;route 0 2;route 1 0;conflict 0 1;conflict 2 0;");
        // Lever 1 must not lock lever 0, as route 2 needs both.
        Check.due("proposedLock(0)", frame.proposedLock(0), 102);
        Check.due("proposedLock(1)", frame.proposedLock(1), 3);
        InterlockingFrame turned = Check.frame("levers 5;route 1 3;route 0 2;route 1 0;conflict 1 0;");
        Check.due("proposedLock(0)", turned.proposedLock(0), 3);
        InterlockingFrame shared = Check.frame("levers 4;route 2 3;route 3 1;conflict 0 1;");
        Check.due("proposedLock(0)", shared.proposedLock(0), 201);
        Check.due("proposedLock(2)", frame.proposedLock(2), -2);
        Check.due("ruleCount", frame.ruleCount(), 0);
        frame.addRule(0, 1, 2, -1);
        Check.due("proposedLock of a protected conflict", frame.proposedLock(0), 102);
    }

    private static void checkNoProposal() {
        InterlockingFrame same = Check.frame("levers 2;route 0;route 0;conflict 0 1;");
        Check.due("no two levers", same.proposedLock(0), -1);
        Check.due("completionSize", same.completionSize(), -1);
        InterlockingFrame needed = Check.frame("levers 2;route 0;route 1;route 0 1;conflict 0 1;");
        Check.due("a route needs both", needed.proposedLock(0), -1);
        // Route 2 is not settable without the lock either, so it does not count.
        InterlockingFrame lost = Check.frame("levers 3;2 locks 0;route 0;route 1;route 0 1 2;conflict 0 1;");
        Check.due("the route is lost already", lost.proposedLock(0), 1);
        // The lock would not forbid route 2, but lever 2 can only be reversed while 0 and 1 are.
        InterlockingFrame way = Check.frame("levers 3;0 releases 2 when 1 normal;1 releases 2;0 holds 2 when 1 normal;"
                + "0 releases 2;route 0;route 1;route 2;conflict 0 1;");
        Check.due("a route is out of reach", way.proposedLock(0), -1);
    }

    private static void checkCompletion() {
        InterlockingFrame frame = Check.frame("levers 6;route 0 1;route 2 3;route 4 5;route 0 2;"
                + "conflict 0 1;conflict 2 1;conflict 2 0;");
        Check.due("completionSize", frame.completionSize(), 3);
        Check.due("completionLock(0)", frame.completionLock(0), 3);
        Check.due("completionLock(1)", frame.completionLock(1), 402);
        Check.due("completionLock(2)", frame.completionLock(2), 400);
        Check.due("completionLock(3)", frame.completionLock(3), -1);
        Check.due("completionLock(MAX)", frame.completionLock(Integer.MAX_VALUE), -1);
        Check.due("completionLock(-1)", frame.completionLock(-1), -3);
        Check.due("completionLock(MIN)", frame.completionLock(Integer.MIN_VALUE), -3);
        Check.due("ruleCount", frame.ruleCount(), 0);
        Check.due("unprotectedConflicts", frame.unprotectedConflicts(), 7);
        frame.addRule(0, 0, 3, -1);
        Check.due("completionSize", frame.completionSize(), 2);
        Check.due("completionLock(0)", frame.completionLock(0), 402);
        frame.undo();
        Check.due("completionSize", frame.completionSize(), 3);
        // The lock for the first conflict protects the second one too.
        InterlockingFrame shared = Check.frame("levers 4;route 0;route 1;route 1 2;conflict 0 1;conflict 0 2;");
        Check.due("completionSize", shared.completionSize(), 1);
        Check.due("completionLock(0)", shared.completionLock(0), 1);
    }

    private static void checkCompletionBeyondFull() {
        InterlockingFrame frame = Check.frame("levers 4;" + "2 holds 3;".repeat(24) + "route 0;route 1;route 2;"
                + "conflict 0 1;conflict 1 2;");
        Check.due("ruleCount", frame.ruleCount(), 24);
        Check.due("proposedLock(0)", frame.proposedLock(0), 1);
        Check.due("completionSize", frame.completionSize(), 2);
        Check.due("completionLock(1)", frame.completionLock(1), 102);
    }

    private static void checkCompletionFails() {
        InterlockingFrame frame = Check.frame("levers 3;route 0;route 1;route 2;route 1 2;conflict 0 1;conflict 1 2;");
        Check.due("proposedLock(0)", frame.proposedLock(0), 1);
        Check.due("proposedLock(1)", frame.proposedLock(1), -1);
        Check.due("completionSize", frame.completionSize(), -1);
        Check.due("completionLock(0)", frame.completionLock(0), -1);
        Check.due("completionLock(-1)", frame.completionLock(-1), -3);
    }

    private static void checkLargestSet() {
        InterlockingFrame frame = Check.frame("levers 4;0 locks 1;0 locks 2;0 locks 3;route 0;route 1;route 2;route 3;"
                + "route 0;");
        Check.due("largestRouteSet", frame.largestRouteSet(), 14);
        frame.addRule(0, 1, 2, -1);
        // Sets 10, 12 and 17 have two routes each.
        Check.due("largestRouteSet", frame.largestRouteSet(), 10);
        frame.addRule(0, 1, 3, -1);
        Check.due("largestRouteSet", frame.largestRouteSet(), 12);
        frame.addRule(0, 2, 3, -1);
        Check.due("largestRouteSet", frame.largestRouteSet(), 17);
        InterlockingFrame none = Check.frame("levers 2;0 releases 1;1 releases 0;route 0;route 1;");
        Check.due("largestRouteSet", none.largestRouteSet(), 0);
    }

    private static void checkFarthest() {
        Check.due("farthestState", Check.frame("levers 3;0 locks 1;1 locks 2;0 locks 2;").farthestState(), 1);
        Check.due("farthestState", Check.frame("levers 3;0 locks 1;").farthestState(), 5);
        Check.due("farthestState", Check.frame("levers 2;0 holds 1;1 holds 0;").farthestState(), 1);
        Check.due("farthestState", Check.frame("levers 2;0 holds 1;").farthestState(), 3);
        Check.due("farthestState", Check.frame("levers 2;0 releases 1;1 releases 0;").farthestState(), 0);
    }

    private static void checkWrongInputs() {
        InterlockingFrame frame = Check.frame("levers 2;route 0;route 1;conflict 0 1;");
        for (int none : NO_NUMBERS) {
            Check.due("settingState " + none, frame.settingState(none), -2);
            Check.due("settingMoves " + none, frame.settingMoves(none), -2);
            Check.due("jointStates 0, " + none, frame.jointStates(0, none), -2);
            Check.due("jointStates " + none, frame.jointStates(none, 0), -2);
            Check.due("proposedLock " + none, frame.proposedLock(none), -2);
        }
        Check.due("settingState(2)", frame.settingState(2), -2);
        Check.due("settingMoves(2)", frame.settingMoves(2), -2);
        Check.due("proposedLock(1)", frame.proposedLock(1), -2);
    }
}
