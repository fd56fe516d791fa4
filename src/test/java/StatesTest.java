/** Promises 20 to 26: states and moves. */
public final class StatesTest {
    private static final int[] NO_STATES = {Integer.MIN_VALUE, -1, 8, 4096, Integer.MAX_VALUE};

    public static void main(String[] args) {
        checkKinds();
        checkConditions();
        checkBlockingRule();
        checkWrongInputs();
        checkWays();
        checkUnreachable();
        checkExcluded();
        checkAllLevers();
        checkLongWay();
        Check.finish();
    }

    private static void checkKinds() {
        InterlockingFrame locks = Check.frame("levers 2;0 locks 1;");
        InterlockingFrame releases = Check.frame("levers 2;0 releases 1;");
        InterlockingFrame holds = Check.frame("levers 2;0 holds 1;");
        int[] legalLocks = {1, 1, 1, 0};
        int[] legalReleases = {1, 1, 0, 1};
        int[] freeLocks = {3, 1, 2, 3};
        int[] freeReleases = {1, 3, 3, 2};
        int[] freeHolds = {3, 1, 3, 1};
        for (int state = 0; state < 4; state++) {
            Check.due("locks isLegal " + state, locks.isLegal(state), legalLocks[state]);
            Check.due("releases isLegal " + state, releases.isLegal(state), legalReleases[state]);
            Check.due("holds isLegal " + state, holds.isLegal(state), 1);
            Check.due("locks freeLevers " + state, locks.freeLevers(state), freeLocks[state]);
            Check.due("releases freeLevers " + state, releases.freeLevers(state), freeReleases[state]);
            Check.due("holds freeLevers " + state, holds.freeLevers(state), freeHolds[state]);
        }
        Check.due("locks reachableCount", locks.reachableCount(), 3);
        Check.due("releases reachableCount", releases.reachableCount(), 3);
        Check.due("holds reachableCount", holds.reachableCount(), 4);
    }

    private static void checkConditions() {
        InterlockingFrame frame = Check.frame("levers 3;0 locks 1 when 2 normal;1 holds 0 when 2 reversed;");
        Check.due("isLegal(3)", frame.isLegal(3), 0);
        Check.due("isLegal(7)", frame.isLegal(7), 1);
        Check.due("blockingRule(1, 1)", frame.blockingRule(1, 1), 0);
        Check.due("blockingRule(5, 1)", frame.blockingRule(5, 1), -1);
        Check.due("blockingRule(6, 0)", frame.blockingRule(6, 0), 1);
        Check.due("blockingRule(7, 2)", frame.blockingRule(7, 2), 0);
        Check.due("reachableCount", frame.reachableCount(), 7);
        Check.due("distance(6, 7)", frame.distance(6, 7), 3);
        Check.due("nextMove(6, 7)", frame.nextMove(6, 7), 1);
    }

    private static void checkBlockingRule() {
        InterlockingFrame frame = Check.frame("levers 3;2 holds 1;0 locks 1;1 locks 0;0 releases 1;");
        Check.due("lowest of several", frame.blockingRule(5, 1), 0);
        Check.due("lowest of two locks", frame.blockingRule(1, 1), 1);
        Check.due("the release", frame.blockingRule(0, 1), 3);
        Check.due("out of an illegal state", frame.blockingRule(3, 1), -1);
        Check.due("from illegal to illegal", frame.blockingRule(3, 2), 1);
        Check.due("freeLevers of an illegal state", frame.freeLevers(3), 2);
        Check.due("freeLevers of an illegal state", frame.freeLevers(7), 0);
    }

    private static void checkWrongInputs() {
        InterlockingFrame frame = Check.frame("levers 3;");
        for (int state : NO_STATES) {
            Check.due("isLegal " + state, frame.isLegal(state), -3);
            Check.due("blockingRule " + state, frame.blockingRule(state, 0), -3);
            Check.due("no lever before bad state", frame.blockingRule(state, 3), -2);
            Check.due("freeLevers " + state, frame.freeLevers(state), -3);
            Check.due("distance from " + state, frame.distance(state, 0), -3);
            Check.due("distance to " + state, frame.distance(0, state), -3);
            Check.due("distance within " + state, frame.distance(state, state), -3);
            Check.due("nextMove from " + state, frame.nextMove(state, 0), -3);
            Check.due("nextMove to " + state, frame.nextMove(0, state), -3);
            Check.due("nextMove within " + state, frame.nextMove(state, state), -3);
        }
        for (int lever : new int[] {Integer.MIN_VALUE, -1, 3, 12, 32, Integer.MAX_VALUE}) {
            Check.due("blockingRule lever " + lever, frame.blockingRule(0, lever), -2);
            Check.due("excludedLevers " + lever, frame.excludedLevers(lever), -2);
        }
        Check.due("isLegal(7)", frame.isLegal(7), 1);
        Check.due("distance(0, 7)", frame.distance(0, 7), 3);
    }

    private static void checkWays() {
        InterlockingFrame frame = Check.frame("levers 3;");
        Check.due("nextMove(0, 6)", frame.nextMove(0, 6), 1);
        Check.due("nextMove(7, 0)", frame.nextMove(7, 0), 0);
        Check.due("nextMove(5, 5)", frame.nextMove(5, 5), -1);
        Check.due("distance(5, 5)", frame.distance(5, 5), 0);
        Check.due("distance(5, 2)", frame.distance(5, 2), 3);
        // Lever 0 comes first where it may, but the shortest way goes through lever 2 first.
        InterlockingFrame released = Check.frame("levers 3;2 releases 0;2 releases 1;");
        Check.due("nextMove(0, 7)", released.nextMove(0, 7), 2);
        Check.due("nextMove(4, 7)", released.nextMove(4, 7), 0);
        Check.due("distance(0, 7)", released.distance(0, 7), 3);
        // A move away from the goal is needed first.
        InterlockingFrame held = Check.frame("levers 3;0 holds 1;2 holds 0;");
        Check.due("distance(5, 7)", held.distance(5, 7), 5);
        Check.due("nextMove(5, 7)", held.nextMove(5, 7), 2);
        Check.due("nextMove(1, 7)", held.nextMove(1, 7), 0);
    }

    private static void checkUnreachable() {
        // State 3 is legal, but each of the two levers releases the other.
        InterlockingFrame frame = Check.frame("levers 2;0 releases 1;1 releases 0;");
        Check.due("isLegal(3)", frame.isLegal(3), 1);
        Check.due("reachableCount", frame.reachableCount(), 1);
        Check.due("distance(0, 3)", frame.distance(0, 3), -1);
        Check.due("distance(3, 3)", frame.distance(3, 3), -1);
        Check.due("distance(3, 0)", frame.distance(3, 0), -1);
        Check.due("distance(0, 0)", frame.distance(0, 0), 0);
        Check.due("nextMove(0, 3)", frame.nextMove(0, 3), -1);
        Check.due("nextMove(3, 0)", frame.nextMove(3, 0), -1);
        Check.due("nextMove(1, 1)", frame.nextMove(1, 1), -1);
        Check.due("excludedLevers(0)", frame.excludedLevers(0), 2);
        Check.due("farthestState", frame.farthestState(), 0);
    }

    private static void checkExcluded() {
        InterlockingFrame frame = Check.frame("levers 4;0 locks 1;2 releases 3;3 releases 2;0 locks 1 when 2 normal;");
        Check.due("excludedLevers(0)", frame.excludedLevers(0), 14);
        Check.due("excludedLevers(1)", frame.excludedLevers(1), 13);
        Check.due("excludedLevers(2)", frame.excludedLevers(2), 11);
        InterlockingFrame conditional = Check.frame("levers 3;0 locks 1 when 2 normal;");
        Check.due("excludedLevers(0)", conditional.excludedLevers(0), 0);
    }

    private static void checkAllLevers() {
        InterlockingFrame frame = Check.frame("levers 12;");
        Check.due("reachableCount", frame.reachableCount(), 4096);
        Check.due("distance(0, 4095)", frame.distance(0, 4095), 12);
        Check.due("nextMove(0, 4095)", frame.nextMove(0, 4095), 0);
        Check.due("nextMove(2047, 4095)", frame.nextMove(2047, 4095), 11);
        Check.due("freeLevers(4095)", frame.freeLevers(4095), 4095);
        Check.due("isLegal(4096)", frame.isLegal(4096), -3);
        Check.due("farthestState", frame.farthestState(), 4095);
        for (int lever = 0; lever < 11; lever++) {
            frame.addRule(1, lever, lever + 1, -1);
        }
        Check.due("reachableCount of a chain", frame.reachableCount(), 13);
        Check.due("distance of a chain", frame.distance(0, 4095), 12);
        Check.due("nextMove of a chain", frame.nextMove(4095, 0), 11);
        Check.due("farthestState of a chain", frame.farthestState(), 4095);
    }

    /** Each lever holds the next one, so that the last lever needs all the others to be normal: ways double. */
    private static void checkLongWay() {
        InterlockingFrame frame = Check.frame("levers 6;0 holds 1;1 holds 2;2 holds 3;3 holds 4;4 holds 5;");
        Check.due("reachableCount", frame.reachableCount(), 64);
        int at = 0;
        int moves = 0;
        while (at != 63 && moves < 100) {
            int lever = frame.nextMove(at, 63);
            Check.due("the move is allowed", frame.blockingRule(at, lever), -1);
            Check.due("the way grows shorter", frame.distance(at ^ 1 << lever, 63), frame.distance(at, 63) - 1);
            at ^= 1 << lever;
            moves++;
        }
        Check.due("the way has as many moves as the distance", moves, frame.distance(0, 63));
    }
}
