/** The boundaries of promises 27 to 35: routes and conflicts. */
public final class RoutesBoundaryTest extends BoundaryTests {
    /** Lever 0 needs lever 3, or the levers 1 and 2: state 9 is nearer than state 7, which is lower. */
    private static final String NEAR_AND_LOW = "levers 4;3 releases 0 when 1 normal;3 releases 0 when 2 normal;route 0;";

    private static final String EIGHT_ROUTES = "levers 8;route 0;route 1;route 2;route 3;route 4;route 5;route 6;route 7;";

    /** Each of the conflicts needs a lock of its own. */
    private static final String EIGHT_CONFLICTS = EIGHT_ROUTES + "conflict 0 1;conflict 0 2;conflict 0 3;conflict 0 4;"
            + "conflict 0 5;conflict 0 6;conflict 0 7;conflict 2 1;";

    private static final int[] EIGHT_LOCKS = {1, 2, 3, 4, 5, 6, 7, 201};

    public static void main(String[] args) throws IllegalAccessException {
        runSentences(RoutesBoundaryTest.class);
    }

    // ---- 27. settingState

    @Sentence("Returns the nearest reachable state that sets a route: the one with the smallest distance from the home state")
    static void promise27_theNearestNotTheLowest() {
        InterlockingFrame frame = frame(NEAR_AND_LOW);
        due("distance(0, 7)", frame.distance(0, 7), 3);
        due("settingState(0)", frame.settingState(0), 9);
        frame.moveLever(1);
        frame.moveLever(2);
        frame.moveLever(0);
        due("settingState(0), whatever the current state", frame.settingState(0), 9);
        due("settingState of all 12 levers",
                frame("levers 12;route 0 1 2 3 4 5 6 7 8 9 10 11;").settingState(0), 4095);
    }

    @Sentence("among states with the same distance, the lowest state")
    static void promise27_theLowestOfTheNearest() {
        // Lever 4 needs the levers 0 and 5 or the levers 1 and 2: the way to 49 comes first, but 22 is lower.
        InterlockingFrame frame = frame("levers 6;0 releases 4 when 1 normal;0 releases 4 when 2 normal;"
                + "5 releases 4 when 1 normal;5 releases 4 when 2 normal;route 4;");
        due("distance(0, 49)", frame.distance(0, 49), 3);
        due("distance(0, 22)", frame.distance(0, 22), 3);
        due("settingState(0)", frame.settingState(0), 22);
    }

    @Sentence("NONE if the route is not settable")
    static void promise27_noneIfNotSettable() {
        due("settingState of a locked pair", frame("levers 2;0 locks 1;route 0 1;").settingState(0), NONE);
        due("settingState out of reach", frame(STUCK + "route 0 1;").settingState(0), NONE);
    }

    @Sentence("NO_SUCH if the route does not exist")
    static void promise27_noSuchRoute() {
        noSuchBeyond("settingState without routes", new InterlockingFrame()::settingState, 0);
        noSuchBeyond("settingState of 1 route", frame("levers 2;route 0;")::settingState, 1);
        noSuchBeyond("settingState of 8 routes", frame(EIGHT_ROUTES)::settingState, 8);
    }

    // ---- 28. settingMoves

    @Sentence("Returns the smallest number of moves that set a route from the home state")
    static void promise28_from1MoveTo12() {
        InterlockingFrame frame = frame("levers 12;route 11;route 0 1 2 3 4 5 6 7 8 9 10 11;");
        due("settingMoves of one lever", frame.settingMoves(0), 1);
        due("settingMoves of all levers", frame.settingMoves(1), 12);
        frame.moveLever(11);
        due("settingMoves of a route that is set now", frame.settingMoves(0), 1);
        due("settingMoves by the shorter way", frame(NEAR_AND_LOW).settingMoves(0), 2);
        // Lever 1 goes over only while lever 0 is reversed, and lever 0 must be back before lever 2.
        InterlockingFrame again = frame("levers 4;3 releases 1;3 holds 1 when 0 normal;0 locks 2;route 1 2;");
        due("settingState", again.settingState(0), 14);
        due("settingMoves with lever 0 over and back", again.settingMoves(0), 5);
    }

    @Sentence("NONE if the route is not settable")
    static void promise28_noneIfNotSettable() {
        due("settingMoves of a locked pair", frame("levers 2;0 locks 1;route 0 1;").settingMoves(0), NONE);
        due("settingMoves out of reach", frame(STUCK + "route 0 1;").settingMoves(0), NONE);
    }

    @Sentence("NO_SUCH if the route does not exist")
    static void promise28_noSuchRoute() {
        noSuchBeyond("settingMoves without routes", new InterlockingFrame()::settingMoves, 0);
        noSuchBeyond("settingMoves of 1 route", frame("levers 2;route 0;")::settingMoves, 1);
        noSuchBeyond("settingMoves of 8 routes", frame(EIGHT_ROUTES)::settingMoves, 8);
    }

    // ---- 29. jointStates

    @Sentence("Counts the reachable states that set two routes at the same time")
    static void promise29_noneOneAndMany() {
        InterlockingFrame frame = frame("levers 12;0 locks 1;route 0;route 1;route 2;route 2 3 4 5 6 7 8 9 10 11;");
        due("jointStates of locked routes", frame.jointStates(0, 1), 0);
        due("jointStates", frame.jointStates(0, 2), 512);
        due("jointStates in one state", frame.jointStates(0, 3), 1);
        due("jointStates out of reach", frame(STUCK + "route 0;route 1;").jointStates(0, 1), 0);
    }

    @Sentence("it may be equal to routeA")
    static void promise29_aRouteWithItself() {
        InterlockingFrame frame = frame(EIGHT_ROUTES);
        due("jointStates(0, 0)", frame.jointStates(0, 0), 128);
        due("jointStates(7, 7)", frame.jointStates(7, 7), 128);
        due("jointStates(0, 7)", frame.jointStates(0, 7), 64);
        due("jointStates(7, 0)", frame.jointStates(7, 0), 64);
    }

    @Sentence("NO_SUCH if a route does not exist")
    static void promise29_noSuchRoute() {
        InterlockingFrame none = new InterlockingFrame();
        noSuchBeyond("jointStates without routes", route -> none.jointStates(route, route), 0);
        InterlockingFrame eight = frame(EIGHT_ROUTES);
        noSuchBeyond("jointStates, route A", route -> eight.jointStates(route, 0), 8);
        noSuchBeyond("jointStates, route B", route -> eight.jointStates(0, route), 8);
        noSuchBeyond("jointStates, both", route -> eight.jointStates(route, route), 8);
    }

    // ---- 30. unprotectedConflicts

    @Sentence("Returns the conflicts as a bit set")
    static void promise30_noneAndAllEightConflicts() {
        due("unprotectedConflicts without conflicts", new InterlockingFrame().unprotectedConflicts(), 0);
        InterlockingFrame frame = frame(EIGHT_CONFLICTS);
        due("unprotectedConflicts, all 8", frame.unprotectedConflicts(), 255);
        frame.addRule(0, 0, 1, NONE);
        due("unprotectedConflicts without the first", frame.unprotectedConflicts(), 254);
        frame.addRule(0, 1, 2, NONE);
        due("unprotectedConflicts without the first and the last", frame.unprotectedConflicts(), 126);
        for (int route = 2; route < 8; route++) {
            frame.addRule(0, 0, route, NONE);
        }
        due("unprotectedConflicts, none left", frame.unprotectedConflicts(), 0);
    }

    // ---- 31. proposedLock

    @Sentence("Proposes a lock for a conflict: a rule of kind 0 without a condition between one lever of the first route and a "
            + "different lever of the second route")
    static void promise31_aDifferentLeverOfTheSecondRoute() {
        due("the only lever of both", frame("levers 2;route 0;route 0;conflict 0 1;").proposedLock(0), NONE);
        due("a lever of both and another", frame("levers 3;route 0 1;route 1 2;conflict 0 1;").proposedLock(0), 2);
        due("the second route first", frame("levers 3;route 0 1;route 1 2;conflict 1 0;").proposedLock(0), 200);
        due("one route inside the other", frame("levers 3;route 0;route 0 1;conflict 0 1;").proposedLock(0), NONE);
    }

    @Sentence("If this rule is added to the sheet, the conflict must be protected and every route that is settable without it "
            + "must still be settable")
    static void promise31_everySettableRouteStaysSettable() {
        String routes = "route 0 2;route 1 3;";
        due("no other route", frame("levers 4;" + routes + "conflict 0 1;").proposedLock(0), 1);
        due("a route needs 0 and 1", frame("levers 4;" + routes + "route 0 1;conflict 0 1;").proposedLock(0), 3);
        due("routes need 0 and 1, 0 and 3",
                frame("levers 4;" + routes + "route 0 1;route 0 3;conflict 0 1;").proposedLock(0), 201);
        InterlockingFrame last = frame("levers 4;" + routes + "route 0 1;route 0 3;route 2 1;conflict 0 1;");
        due("only the last pair is left", last.proposedLock(0), 203);
        due("unprotectedConflicts", last.unprotectedConflicts(), 1);
        last.addRule(0, 2, 3, NONE);
        due("unprotectedConflicts with the lock", last.unprotectedConflicts(), 0);
        for (int route = 0; route < 5; route++) {
            Check.holds("route " + route + " is settable with the lock", last.settingState(route) != NONE);
        }
    }

    @Sentence("If this rule is added to the sheet, the conflict must be protected and every route that is settable without it "
            + "must still be settable")
    static void promise31_aRouteThatIsNotSettableAnywayDoesNotCount() {
        InterlockingFrame frame = frame("levers 3;2 locks 0;route 0;route 1;route 0 1 2;conflict 0 1;");
        due("settingState(2)", frame.settingState(2), NONE);
        due("proposedLock(0)", frame.proposedLock(0), 1);
    }

    @Sentence("Returns 100 times the lever of the first route plus the lever of the second route, for the proposal with the "
            + "lowest such number")
    static void promise31_theLowestProposal() {
        due("levers 0 and 1", frame("levers 12;route 11 0;route 10 1;conflict 0 1;").proposedLock(0), 1);
        due("levers 1 and 0", frame("levers 12;route 11 0;route 10 1;conflict 1 0;").proposedLock(0), 100);
        due("levers 11 and 10", frame("levers 12;route 11;route 10;conflict 0 1;").proposedLock(0), 1110);
        due("levers 10 and 11", frame("levers 12;route 11;route 10;conflict 1 0;").proposedLock(0), 1011);
        due("levers 0 and 11", frame("levers 12;route 0;route 11;conflict 0 1;").proposedLock(0), 11);
        due("levers 11 and 0", frame("levers 12;route 0;route 11;conflict 1 0;").proposedLock(0), 1100);
    }

    @Sentence("NONE if there is no such proposal")
    static void promise31_noneIfEveryLockTakesARoute() {
        InterlockingFrame frame = frame("levers 2;route 0;route 1;route 0 1;conflict 0 1;conflict 0 2;");
        due("proposedLock(0)", frame.proposedLock(0), NONE);
        due("proposedLock(1)", frame.proposedLock(1), NONE);
    }

    @Sentence("NO_SUCH if the conflict does not exist")
    static void promise31_noSuchConflict() {
        noSuchBeyond("proposedLock without conflicts", new InterlockingFrame()::proposedLock, 0);
        noSuchBeyond("proposedLock of 1 conflict", frame("levers 2;route 0;route 1;conflict 0 1;")::proposedLock, 1);
        noSuchBeyond("proposedLock of 8 conflicts", frame(EIGHT_CONFLICTS)::proposedLock, 8);
    }

    // ---- 32. completionSize

    @Sentence("The conflicts are examined in the order of their numbers")
    static void promise32_inTheOrderOfTheirNumbers() {
        // The lock for the second conflict would protect the first one too, if it came first.
        InterlockingFrame frame = frame("levers 3;route 0;route 1 2;route 2;conflict 0 1;conflict 0 2;");
        due("completionSize", frame.completionSize(), 2);
        due("completionLock(0)", frame.completionLock(0), 1);
        due("completionLock(1)", frame.completionLock(1), 2);
        InterlockingFrame turned = frame("levers 3;route 0;route 1 2;route 2;conflict 0 2;conflict 0 1;");
        due("completionSize the other way round", turned.completionSize(), 1);
        due("completionLock(0)", turned.completionLock(0), 2);
    }

    @Sentence("If the examined conflict is not protected by the sheet together with the locks added so far, the lock proposed "
            + "for it (see proposedLock, applied to the sheet together with the locks added so far) is added")
    static void promise32_aConflictThatALockProtectsAddsNone() {
        InterlockingFrame frame = frame("levers 3;route 0;route 1;route 1 2;conflict 0 1;conflict 0 2;");
        due("unprotectedConflicts", frame.unprotectedConflicts(), 3);
        due("completionSize", frame.completionSize(), 1);
        due("completionLock(0)", frame.completionLock(0), 1);
        due("completionLock(1)", frame.completionLock(1), NONE);
        InterlockingFrame high = frame("levers 12;route 11;route 10;route 9 10;conflict 0 1;conflict 0 2;");
        due("completionSize by the highest levers", high.completionSize(), 1);
        due("completionLock(0)", high.completionLock(0), 1110);
    }

    /** Lever 4 needs 0 and 1, or 2 and 3: either lock leaves a way to its route, both together do not. */
    private static final String ONE_WAY_EACH = "levers 6;0 releases 4 when 2 normal;0 releases 4 when 3 normal;"
            + "1 releases 4 when 2 normal;1 releases 4 when 3 normal;route 0;route 1;route 4;";

    @Sentence("If the examined conflict is not protected by the sheet together with the locks added so far, the lock proposed "
            + "for it (see proposedLock, applied to the sheet together with the locks added so far) is added")
    static void promise32_theLocksAddedSoFarCountForTheProposal() {
        InterlockingFrame frame = frame(ONE_WAY_EACH + "route 2;route 3 5;conflict 0 1;conflict 3 4;");
        due("proposedLock(1) of the sheet alone", frame.proposedLock(1), 203);
        due("completionSize", frame.completionSize(), 2);
        due("completionLock(0)", frame.completionLock(0), 1);
        due("completionLock(1)", frame.completionLock(1), 205);
    }

    @Sentence("The procedure fails if there is no such proposal")
    static void promise32_itFailsAtTheLastConflictToo() {
        InterlockingFrame first = frame("levers 3;route 0;route 0;route 1;conflict 0 1;conflict 0 2;");
        due("completionSize, no lock for the first", first.completionSize(), NONE);
        InterlockingFrame last = frame("levers 3;route 0;route 0;route 1;conflict 0 2;conflict 0 1;");
        due("completionSize, no lock for the last", last.completionSize(), NONE);
        InterlockingFrame together = frame(ONE_WAY_EACH + "route 2;route 3;conflict 0 1;conflict 3 4;");
        due("proposedLock(0)", together.proposedLock(0), 1);
        due("proposedLock(1)", together.proposedLock(1), 203);
        due("completionSize, no lock beside the first one's", together.completionSize(), NONE);
    }

    @Sentence("The frame does not change, and the limit of 24 rules does not apply to the added locks")
    static void promise32_theFrameDoesNotChange() {
        InterlockingFrame frame = frame(EIGHT_CONFLICTS);
        frame.moveLever(0);
        frame.moveLever(1);
        String before = contents(frame);
        due("completionSize", frame.completionSize(), 8);
        due("completionLock(0)", frame.completionLock(0), 1);
        same("contents", contents(frame), before);
        due("undo", frame.undo(), 1);
    }

    @Sentence("The frame does not change, and the limit of 24 rules does not apply to the added locks")
    static void promise32_eightLocksBeside24Rules() {
        InterlockingFrame frame = frame(EIGHT_CONFLICTS + "6 holds 7;".repeat(24));
        due("ruleCount", frame.ruleCount(), 24);
        due("completionSize", frame.completionSize(), 8);
        for (int index = 0; index < 8; index++) {
            due("completionLock " + index, frame.completionLock(index), EIGHT_LOCKS[index]);
        }
        due("ruleCount", frame.ruleCount(), 24);
    }

    @Sentence("Returns the number of added locks, 0 if all conflicts are protected")
    static void promise32_from0To8Locks() {
        due("completionSize without conflicts", new InterlockingFrame().completionSize(), 0);
        InterlockingFrame frame = frame("levers 2;0 locks 1;route 0;route 1;conflict 0 1;");
        due("completionSize, all protected", frame.completionSize(), 0);
        frame.removeRule(0);
        due("completionSize without the lock", frame.completionSize(), 1);
        frame.undo();
        due("completionSize with the lock again", frame.completionSize(), 0);
        due("completionSize of 8 conflicts", frame(EIGHT_CONFLICTS).completionSize(), 8);
        // No lock can be proposed, but none is needed.
        due("completionSize of a route that is never set",
                frame(STUCK + "route 0;route 0;conflict 0 1;").completionSize(), 0);
    }

    @Sentence("NONE if the procedure fails")
    static void promise32_noneIfItFails() {
        InterlockingFrame frame = frame("levers 2;route 0;route 0;conflict 0 1;");
        due("completionSize", frame.completionSize(), NONE);
        due("completionSize, asked again", frame.completionSize(), NONE);
    }

    // ---- 33. completionLock

    @Sentence("- `index`: index of the added lock, from 0 in the order in which the locks are added")
    static void promise33_fromTheFirstToTheEighthLock() {
        InterlockingFrame frame = frame(EIGHT_CONFLICTS);
        for (int index = 7; index >= 0; index--) {
            due("completionLock " + index, frame.completionLock(index), EIGHT_LOCKS[index]);
        }
    }

    @Sentence("Returns 100 times the lever of the first route plus the lever of the second route")
    static void promise33_theHighestLevers() {
        InterlockingFrame frame = frame("levers 12;route 11;route 10;route 0;conflict 0 1;conflict 2 0;conflict 1 2;");
        due("completionLock(0)", frame.completionLock(0), 1110);
        due("completionLock(1)", frame.completionLock(1), 11);
        due("completionLock(2)", frame.completionLock(2), 1000);
    }

    @Sentence("NONE if the procedure fails or adds no such lock")
    static void promise33_noneBehindTheLastLock() {
        InterlockingFrame none = new InterlockingFrame();
        due("completionLock(0) without conflicts", none.completionLock(0), NONE);
        InterlockingFrame eight = frame(EIGHT_CONFLICTS);
        for (int index : new int[] {8, 9, 24, 32, 4096, MAX}) {
            due("completionLock " + index + " of 8", eight.completionLock(index), NONE);
        }
        InterlockingFrame fewer = frame("levers 2;0 locks 1;route 0;route 1;conflict 0 1;");
        due("completionLock(0), all protected", fewer.completionLock(0), NONE);
    }

    @Sentence("NONE if the procedure fails or adds no such lock")
    static void promise33_noneIfItFailsAfterALock() {
        InterlockingFrame frame = frame("levers 3;route 0;route 0;route 1;conflict 0 2;conflict 0 1;");
        due("proposedLock(0)", frame.proposedLock(0), 1);
        due("completionLock(0)", frame.completionLock(0), NONE);
        due("completionLock(1)", frame.completionLock(1), NONE);
    }

    @Sentence("BAD_VALUE if the index is negative")
    static void promise33_negativeIndex() {
        String failing = "levers 2;route 0;route 0;conflict 0 1;";
        for (int index : new int[] {-1, -2, -8, MIN}) {
            due("completionLock " + index + " of 8", frame(EIGHT_CONFLICTS).completionLock(index), BAD_VALUE);
            due("completionLock " + index + " of none", new InterlockingFrame().completionLock(index), BAD_VALUE);
            due("completionLock " + index + " if it fails", frame(failing).completionLock(index), BAD_VALUE);
        }
    }

    // ---- 34. largestRouteSet

    @Sentence("Returns the largest set of routes that are set at the same time in some reachable state")
    static void promise34_theLargestNotTheLowest() {
        InterlockingFrame frame = frame("levers 4;0 locks 1;0 locks 2;0 locks 3;route 0;route 1;route 2;route 3;");
        due("largestRouteSet", frame.largestRouteSet(), 14);
        due("largestRouteSet out of reach", frame(STUCK + "route 0;route 1;route 0 1;").largestRouteSet(), 0);
        due("largestRouteSet of all 8", frame(EIGHT_ROUTES).largestRouteSet(), 255);
    }

    @Sentence("Among sets of the same size the one with the lowest bit set is returned")
    static void promise34_theLowestOfTheLargest() {
        InterlockingFrame pairs = frame("levers 4;0 locks 1;0 locks 2;0 locks 3;1 locks 2;route 0;route 1;route 2;route 3;");
        due("largestRouteSet, 1 and 3 or 2 and 3", pairs.largestRouteSet(), 10);
        // The lower set is in the higher state.
        InterlockingFrame turned = frame("levers 2;0 locks 1;route 1;route 0;");
        due("largestRouteSet, one of two", turned.largestRouteSet(), 1);
        InterlockingFrame ends = frame("levers 8;0 locks 7;route 7;route 1;route 0;");
        due("largestRouteSet, two of three", ends.largestRouteSet(), 3);
    }

    @Sentence("Returns the routes as a bit set, 0 if no route is settable")
    static void promise34_zeroWithoutASettableRoute() {
        due("largestRouteSet without routes", new InterlockingFrame().largestRouteSet(), 0);
        due("largestRouteSet of routes out of reach", frame(STUCK + "route 0;route 1;").largestRouteSet(), 0);
        due("largestRouteSet of the eighth route alone",
                frame(STUCK.replace("levers 2", "levers 3") + "route 0;".repeat(7) + "route 2;").largestRouteSet(), 128);
    }

    // ---- 35. farthestState

    @Sentence("Returns the reachable state with the greatest distance from the home state")
    static void promise35_theFarthestNotTheHighest() {
        due("farthestState of 12 free levers", frame("levers 12;").farthestState(), 4095);
        InterlockingFrame frame = frame("levers 3;0 locks 2;1 locks 2;");
        due("farthestState", frame.farthestState(), 3);
        frame.moveLever(0);
        frame.moveLever(1);
        due("farthestState is measured from home", frame.farthestState(), 3);
        // Lever 0 goes over only while lever 1 is reversed: lever 1 must go over and back for state 5.
        InterlockingFrame held = frame("levers 3;2 releases 0;2 holds 0 when 1 normal;");
        due("distance(0, 7)", held.distance(0, 7), 3);
        due("distance(0, 5)", held.distance(0, 5), 4);
        due("farthestState, not the one with the most levers reversed", held.farthestState(), 5);
    }

    @Sentence("among states with the same distance, the lowest state")
    static void promise35_theLowestOfTheFarthest() {
        due("farthestState, 1, 2 or 4", frame("levers 3;0 locks 1;1 locks 2;0 locks 2;").farthestState(), 1);
        due("farthestState, 5 or 6", frame("levers 3;0 locks 1;").farthestState(), 5);
        // The way to 9 comes first, but 6 is lower.
        due("farthestState, 9 or 6", frame("levers 4;0 locks 1;0 locks 2;1 locks 3;2 locks 3;").farthestState(), 6);
    }

    @Sentence("0 if only the home state is reachable")
    static void promise35_zeroIfOnlyHomeIsReachable() {
        due("farthestState", frame(STUCK).farthestState(), 0);
    }
}
