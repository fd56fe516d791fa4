/** The boundaries of promises 20 to 26: states and moves. */
public final class StatesBoundaryTest extends BoundaryTests {
    public static void main(String[] args) throws IllegalAccessException {
        runSentences(StatesBoundaryTest.class);
    }

    // ---- 20. isLegal

    @Sentence("Returns 1 if the state is legal, otherwise 0")
    static void promise20_theLowestAndTheHighestState() {
        InterlockingFrame frame = frame("levers 12;0 locks 11;");
        due("isLegal(0)", frame.isLegal(0), 1);
        due("isLegal(4094)", frame.isLegal(4094), 1);
        due("isLegal(4095)", frame.isLegal(4095), 0);
        due("isLegal(2049)", frame.isLegal(2049), 0);
        due("isLegal of a state out of reach", frame(STUCK).isLegal(3), 1);
    }

    @Sentence("BAD_VALUE if the state is out of range")
    static void promise20_badState() {
        badValueBeyond("isLegal of 2 levers", new InterlockingFrame()::isLegal, 4);
        badValueBeyond("isLegal of 12 levers", frame("levers 12;")::isLegal, 4096);
    }

    // ---- 21. blockingRule

    @Sentence("The state may be illegal or unreachable")
    static void promise21_illegalAndUnreachableStates() {
        InterlockingFrame illegal = frame("levers 3;0 locks 1;1 holds 2;");
        due("isLegal(3)", illegal.isLegal(3), 0);
        due("blockingRule(3, 0), out of it", illegal.blockingRule(3, 0), NONE);
        due("blockingRule(3, 2), a lock and a hold", illegal.blockingRule(3, 2), 0);
        InterlockingFrame stuck = frame(STUCK);
        due("blockingRule(3, 0) of a state out of reach", stuck.blockingRule(3, 0), 0);
        due("blockingRule(3, 1) of a state out of reach", stuck.blockingRule(3, 1), 1);
        due("blockingRule(1, 0) of an illegal state out of reach", stuck.blockingRule(1, 0), NONE);
    }

    @Sentence("Returns the lowest number of a rule that blocks the move")
    static void promise21_theLowestOfSeveralRules() {
        InterlockingFrame frame = frame("levers 3;0 holds 2;1 locks 0;0 locks 1;0 holds 1;");
        due("blockingRule(1, 1)", frame.blockingRule(1, 1), 1);
        frame.removeRule(1);
        due("blockingRule(1, 1) without it", frame.blockingRule(1, 1), 1);
        frame.removeRule(1);
        due("blockingRule(1, 1), the hold is left", frame.blockingRule(1, 1), 1);
        InterlockingFrame last = frame("levers 3;" + "0 locks 1;".repeat(23) + "0 locks 2;");
        due("blockingRule(1, 1), the first of 24", last.blockingRule(1, 1), 0);
        due("blockingRule(1, 2), the last of 24", last.blockingRule(1, 2), 23);
    }

    @Sentence("NONE if the move is allowed")
    static void promise21_noneWithoutRules() {
        InterlockingFrame frame = frame("levers 12;");
        due("blockingRule(0, 0)", frame.blockingRule(0, 0), NONE);
        due("blockingRule(4095, 11)", frame.blockingRule(4095, 11), NONE);
    }

    @Sentence("NO_SUCH if the lever does not exist")
    static void promise21_noSuchLever() {
        InterlockingFrame two = new InterlockingFrame();
        noSuchBeyond("blockingRule of 2 levers", lever -> two.blockingRule(3, lever), 2);
        InterlockingFrame twelve = frame("levers 12;");
        noSuchBeyond("blockingRule of 12 levers", lever -> twelve.blockingRule(0, lever), 12);
    }

    @Sentence("BAD_VALUE if the state is out of range")
    static void promise21_badState() {
        InterlockingFrame two = new InterlockingFrame();
        badValueBeyond("blockingRule of 2 levers", state -> two.blockingRule(state, 1), 4);
        InterlockingFrame twelve = frame("levers 12;");
        badValueBeyond("blockingRule of 12 levers", state -> twelve.blockingRule(state, 11), 4096);
    }

    // ---- 22. freeLevers

    @Sentence("The state may be illegal or unreachable")
    static void promise22_illegalAndUnreachableStates() {
        InterlockingFrame illegal = frame("levers 3;0 locks 1;");
        due("freeLevers(3), out of the lock", illegal.freeLevers(3), 3);
        due("freeLevers(7), out of the lock", illegal.freeLevers(7), 3);
        InterlockingFrame stuck = frame(STUCK);
        due("freeLevers(0)", stuck.freeLevers(0), 0);
        due("freeLevers(1), illegal", stuck.freeLevers(1), 3);
        due("freeLevers(3), out of reach", stuck.freeLevers(3), 0);
    }

    @Sentence("Returns the levers as a bit set")
    static void promise22_noneAndAllLevers() {
        due("freeLevers(0) of 12 levers", frame("levers 12;").freeLevers(0), 4095);
        due("freeLevers(4095) of 12 levers", frame("levers 12;").freeLevers(4095), 4095);
        due("freeLevers(0) if nothing moves", frame(STUCK).freeLevers(0), 0);
        due("freeLevers(1), all but lever 11", frame("levers 12;0 locks 11;").freeLevers(1), 2047);
        due("freeLevers(2048), all but lever 0", frame("levers 12;0 locks 11;").freeLevers(2048), 4094);
    }

    @Sentence("BAD_VALUE if the state is out of range")
    static void promise22_badState() {
        badValueBeyond("freeLevers of 2 levers", new InterlockingFrame()::freeLevers, 4);
        badValueBeyond("freeLevers of 12 levers", frame("levers 12;")::freeLevers, 4096);
    }

    // ---- 23. reachableCount

    @Sentence("Returns the count, at least 1")
    static void promise23_from1To4096() {
        due("reachableCount if nothing moves", frame(STUCK).reachableCount(), 1);
        due("reachableCount of 12 free levers", frame("levers 12;").reachableCount(), 4096);
        due("reachableCount of 2 free levers", new InterlockingFrame().reachableCount(), 4);
    }

    @Sentence("Counts the reachable states")
    static void promise23_afterEveryChangeOfTheRules() {
        InterlockingFrame frame = new InterlockingFrame();
        due("reachableCount", frame.reachableCount(), 4);
        frame.addRule(1, 0, 1, NONE);
        due("reachableCount after addRule", frame.reachableCount(), 3);
        frame.addRule(1, 1, 0, NONE);
        due("reachableCount after addRule", frame.reachableCount(), 1);
        frame.removeRule(0);
        due("reachableCount after removeRule", frame.reachableCount(), 3);
        frame.undo();
        due("reachableCount after undo of removeRule", frame.reachableCount(), 1);
        frame.undo();
        due("reachableCount after undo of addRule", frame.reachableCount(), 3);
        Check.parse(frame, "levers 2;");
        due("reachableCount after a sheet", frame.reachableCount(), 4);
    }

    // ---- 24. distance

    @Sentence("Returns the distance, 0 if both states are equal and reachable")
    static void promise24_zeroBetweenEqualStates() {
        InterlockingFrame frame = frame("levers 12;");
        due("distance(0, 0)", frame.distance(0, 0), 0);
        due("distance(4095, 4095)", frame.distance(4095, 4095), 0);
        due("distance(0, 4095)", frame.distance(0, 4095), 12);
        due("distance(4095, 0)", frame.distance(4095, 0), 12);
        due("distance(2047, 4095)", frame.distance(2047, 4095), 1);
    }

    @Sentence("NONE if one of them is not reachable")
    static void promise24_noneFromOrToUnreachableStates() {
        InterlockingFrame frame = frame(STUCK);
        due("distance(0, 3), legal but out of reach", frame.distance(0, 3), NONE);
        due("distance(3, 0)", frame.distance(3, 0), NONE);
        due("distance(3, 3), equal", frame.distance(3, 3), NONE);
        due("distance(0, 1), illegal", frame.distance(0, 1), NONE);
        due("distance(1, 1), illegal and equal", frame.distance(1, 1), NONE);
        due("distance(1, 3)", frame.distance(1, 3), NONE);
        // One move would lead from the illegal state to a reachable one.
        due("distance(3, 1) with a lock", frame("levers 2;0 locks 1;").distance(3, 1), NONE);
    }

    @Sentence("BAD_VALUE if a state is out of range")
    static void promise24_badState() {
        InterlockingFrame frame = frame("levers 12;");
        badValueBeyond("distance from", state -> frame.distance(state, 0), 4096);
        badValueBeyond("distance to", state -> frame.distance(0, state), 4096);
        badValueBeyond("distance within", state -> frame.distance(state, state), 4096);
        InterlockingFrame stuck = frame(STUCK);
        badValueBeyond("distance to, from a state out of reach", state -> stuck.distance(3, state), 4);
        badValueBeyond("distance from, to a state out of reach", state -> stuck.distance(state, 3), 4);
    }

    // ---- 25. nextMove

    @Sentence("Among all shortest sequences of moves the one whose lever numbers come first in lexicographic order is used")
    static void promise25_theLowestLeverThatBeginsAShortestWay() {
        InterlockingFrame free = frame("levers 12;");
        due("nextMove(0, 4095)", free.nextMove(0, 4095), 0);
        due("nextMove(4095, 0)", free.nextMove(4095, 0), 0);
        due("nextMove(0, 3072)", free.nextMove(0, 3072), 10);
        due("nextMove(0, 2048)", free.nextMove(0, 2048), 11);
        // Lever 0 may be moved first, but then the way is longer.
        InterlockingFrame held = frame("levers 2;0 holds 1;");
        due("nextMove(0, 3)", held.nextMove(0, 3), 1);
        // The only shortest way begins with a move away from the goal.
        due("nextMove(1, 3)", held.nextMove(1, 3), 0);
    }

    @Sentence("NONE if both states are equal or one of them is not reachable")
    static void promise25_noneBetweenEqualStates() {
        InterlockingFrame frame = frame("levers 12;");
        due("nextMove(0, 0)", frame.nextMove(0, 0), NONE);
        due("nextMove(4095, 4095)", frame.nextMove(4095, 4095), NONE);
        due("nextMove(1, 0)", frame.nextMove(1, 0), 0);
    }

    @Sentence("NONE if both states are equal or one of them is not reachable")
    static void promise25_noneFromOrToUnreachableStates() {
        InterlockingFrame frame = frame(STUCK);
        due("nextMove(0, 3)", frame.nextMove(0, 3), NONE);
        due("nextMove(3, 0)", frame.nextMove(3, 0), NONE);
        due("nextMove(3, 3)", frame.nextMove(3, 3), NONE);
        due("nextMove(0, 1)", frame.nextMove(0, 1), NONE);
        due("nextMove(3, 1) with a lock", frame("levers 2;0 locks 1;").nextMove(3, 1), NONE);
    }

    @Sentence("BAD_VALUE if a state is out of range")
    static void promise25_badState() {
        InterlockingFrame frame = frame("levers 12;");
        badValueBeyond("nextMove from", state -> frame.nextMove(state, 0), 4096);
        badValueBeyond("nextMove to", state -> frame.nextMove(0, state), 4096);
        badValueBeyond("nextMove within", state -> frame.nextMove(state, state), 4096);
        InterlockingFrame stuck = frame(STUCK);
        badValueBeyond("nextMove to, from a state out of reach", state -> stuck.nextMove(3, state), 4);
        badValueBeyond("nextMove from, to a state out of reach", state -> stuck.nextMove(state, 3), 4);
    }

    // ---- 26. excludedLevers

    @Sentence("Returns the levers that exclude a lever: a different lever is included if no reachable state has both levers "
            + "reversed")
    static void promise26_aLeverNeverExcludesItself() {
        InterlockingFrame stuck = frame(STUCK);
        due("excludedLevers(0), never reversed", stuck.excludedLevers(0), 2);
        due("excludedLevers(1), never reversed", stuck.excludedLevers(1), 1);
        InterlockingFrame one = frame("levers 3;0 releases 1;1 releases 0;");
        due("excludedLevers(2)", one.excludedLevers(2), 3);
        due("excludedLevers(0)", one.excludedLevers(0), 6);
    }

    @Sentence("Returns the levers that exclude a lever: a different lever is included if no reachable state has both levers "
            + "reversed")
    static void promise26_oneReachableStateIsEnough() {
        InterlockingFrame frame = frame("levers 3;0 locks 1 when 2 normal;");
        due("excludedLevers(0), together in state 7 alone", frame.excludedLevers(0), 0);
        frame.addRule(0, 2, 1, NONE);
        due("excludedLevers(0), no longer", frame.excludedLevers(0), 2);
        due("excludedLevers(1)", frame.excludedLevers(1), 5);
    }

    @Sentence("Returns the levers as a bit set")
    static void promise26_noneAndAllOtherLevers() {
        due("excludedLevers(11) of free levers", frame("levers 12;").excludedLevers(11), 0);
        StringBuilder sheet = new StringBuilder("levers 12;");
        for (int lever = 0; lever < 11; lever++) {
            sheet.append(lever).append(" locks 11;");
        }
        InterlockingFrame frame = frame(sheet.toString());
        due("excludedLevers(11)", frame.excludedLevers(11), 2047);
        due("excludedLevers(0)", frame.excludedLevers(0), 2048);
    }

    @Sentence("NO_SUCH if the lever does not exist")
    static void promise26_noSuchLever() {
        noSuchBeyond("excludedLevers of 2 levers", new InterlockingFrame()::excludedLevers, 2);
        noSuchBeyond("excludedLevers of 12 levers", frame("levers 12;")::excludedLevers, 12);
    }
}
