/** The boundaries that the description names: levers, states, rules and moves, routes and conflicts, refused calls. */
public final class DescriptionBoundaryTest extends BoundaryTests {
    public static void main(String[] args) throws IllegalAccessException {
        runSentences(DescriptionBoundaryTest.class);
    }

    // ---- What it is

    @Sentence("An object is used for at most 512 calls after it has been made")
    static void use_theLastOf512CallsIsAnswered() {
        InterlockingFrame frame = new InterlockingFrame();
        for (int call = 1; call <= 510; call++) {
            due("call " + call + ", moveLever(0)", frame.moveLever(0), call % 2);
        }
        due("call 511, undo", frame.undo(), 11);
        due("call 512, currentState", frame.currentState(), 1);
    }

    @Sentence("An object is used for at most 512 calls after it has been made")
    static void use_512CallsMayChangeTheRulesAndSearchAgain() {
        InterlockingFrame frame = new InterlockingFrame();
        for (int call = 1; call <= 512; call += 4) {
            due("call " + call + ", addRule", frame.addRule(0, 0, 1, NONE), 1);
            due("call " + (call + 1) + ", reachableCount", frame.reachableCount(), 3);
            due("call " + (call + 2) + ", removeRule", frame.removeRule(0), 0);
            due("call " + (call + 3) + ", reachableCount", frame.reachableCount(), 4);
        }
    }

    // ---- 1. Levers and states

    @Sentence("A frame has 2 to 12 levers, numbered from 0")
    static void section1_everyNumberOfLeversFrom2To12() {
        for (int levers = 2; levers <= 12; levers++) {
            InterlockingFrame frame = frame("levers " + levers + ";");
            due("leverCount", frame.leverCount(), levers);
            noSuchBeyond("moveLever with " + levers + " levers", frame::moveLever, levers);
        }
        InterlockingFrame frame = new InterlockingFrame();
        due("parseSheet of 1 lever", Check.parse(frame, "levers 1;"), -32);
        due("parseSheet of 13 levers", Check.parse(frame, "levers 13;"), -32);
        due("leverCount", frame.leverCount(), 2);
    }

    @Sentence("A new object has 2 levers, no rules, no routes and no conflicts")
    static void section1_aNewObjectIsEmpty() {
        same("contents of a new object", Check.contents(new InterlockingFrame()),
                "2 levers, state 0, 0 bytes, error 0/-1, conflicts 0");
    }

    @Sentence("A state is a bit set of the reversed levers: bit i is 1 if lever i is reversed")
    static void section1_bitOfTheLowestAndOfTheHighestLever() {
        InterlockingFrame frame = frame("levers 12;");
        for (int lever = 0; lever < 12; lever++) {
            due("moveLever over " + lever, frame.moveLever(lever), 1 << lever);
            due("moveLever back " + lever, frame.moveLever(lever), 0);
        }
    }

    @Sentence("The state 0, in which all levers are normal, is called the home state")
    static void section1_homeIsStateZero() {
        InterlockingFrame frame = frame("levers 12;");
        for (int lever = 0; lever < 12; lever++) {
            frame.moveLever(lever);
        }
        due("currentState, all reversed", frame.currentState(), 4095);
        for (int lever = 0; lever < 12; lever++) {
            frame.moveLever(lever);
        }
        due("currentState, all normal again", frame.currentState(), 0);
        due("distance of home from itself", frame.distance(0, 0), 0);
    }

    @Sentence("States are numbers from 0 to 2^n - 1, where n is the number of levers")
    static void section1_lowestAndHighestStateOfEveryFrame() {
        for (int levers = 2; levers <= 12; levers++) {
            InterlockingFrame frame = frame("levers " + levers + ";");
            int states = 1 << levers;
            badValueBeyond("isLegal with " + levers + " levers", frame::isLegal, states);
            due("farthestState with " + levers + " levers", frame.farthestState(), states - 1);
            due("reachableCount with " + levers + " levers", frame.reachableCount(), states);
        }
    }

    @Sentence("It is the home state at first")
    static void section1_theCurrentStateIsHomeAtFirst() {
        due("currentState of a new object", new InterlockingFrame().currentState(), 0);
        due("currentState with 12 levers", frame("levers 12;").currentState(), 0);
    }

    @Sentence("All other methods that take a state as a parameter do not change the current state")
    static void section1_statesAreOnlyLookedAt() {
        InterlockingFrame frame = frame("levers 3;0 locks 1;1 holds 2;");
        frame.moveLever(2);
        for (int state : new int[] {MIN, -1, 0, 1, 3, 4, 7, 8, MAX}) {
            frame.isLegal(state);
            frame.blockingRule(state, 0);
            frame.freeLevers(state);
            frame.distance(state, 0);
            frame.distance(0, state);
            frame.nextMove(state, 0);
            frame.nextMove(0, state);
            due("currentState after looking at " + state, frame.currentState(), 4);
        }
        due("undo", frame.undo(), 0);
    }

    // ---- 2. Rules

    @Sentence("There are at most 24 rules")
    static void section2_the24thRuleIsTheLast() {
        String sheet = "levers 3;" + "0 locks 1;".repeat(24);
        InterlockingFrame frame = frame(sheet);
        due("ruleCount", frame.ruleCount(), 24);
        due("addRule", frame.addRule(0, 0, 1, NONE), FULL);
        due("parseSheet of 25 rules", Check.parse(frame, sheet + "0 locks 1;"), -34);
        due("ruleCount", frame.ruleCount(), 24);
    }

    @Sentence("They are numbered from 0 in the order in which they were added")
    static void section2_numbersFrom0To23() {
        InterlockingFrame frame = frame("levers 12;0 locks 11;");
        for (int rule = 1; rule < 24; rule++) {
            frame.addRule(rule % 3, rule % 11, 11, NONE);
        }
        for (int rule = 0; rule < 24; rule++) {
            due("ruleKind " + rule, frame.ruleKind(rule), rule % 3);
            due("ruleLevers " + rule, frame.ruleLevers(rule), 100 * (rule % 11) + 11);
        }
    }

    @Sentence("if a rule is removed, the numbers of the later rules decrease by 1")
    static void section2_removingTheFirstAMiddleAndTheLastRule() {
        for (int gone : new int[] {0, 5, 9}) {
            InterlockingFrame frame = frame("levers 12;");
            for (int rule = 0; rule < 10; rule++) {
                frame.addRule(0, rule, 11, NONE);
            }
            frame.removeRule(gone);
            for (int rule = 0; rule < 9; rule++) {
                int was = rule < gone ? rule : rule + 1;
                due("ruleLevers " + rule + " without " + gone, frame.ruleLevers(rule), 100 * was + 11);
            }
            due("ruleLevers 9 without " + gone, frame.ruleLevers(9), NO_SUCH);
        }
    }

    @Sentence("A rule has a kind, a lever A, a different lever B and an optional condition")
    static void section2_leverBIsDifferent() {
        InterlockingFrame frame = frame("levers 12;");
        for (int kind = 0; kind <= 2; kind++) {
            due("addRule with lever 0 twice", frame.addRule(kind, 0, 0, NONE), BAD_VALUE);
            due("addRule with lever 11 twice", frame.addRule(kind, 11, 11, NONE), BAD_VALUE);
            due("addRule with 0 and 11", frame.addRule(kind, 0, 11, NONE), kind + 1);
        }
    }

    @Sentence("A condition names a third lever C, different from A and B, and a position")
    static void section2_theConditionNamesAThirdLever() {
        InterlockingFrame two = new InterlockingFrame();
        for (int condition = 0; condition <= 3; condition++) {
            due("addRule with 2 levers, condition " + condition, two.addRule(0, 0, 1, condition), BAD_VALUE);
        }
        InterlockingFrame three = frame("levers 3;");
        due("addRule with 3 levers, normal", three.addRule(0, 0, 1, 4), 1);
        due("addRule with 3 levers, reversed", three.addRule(0, 0, 1, 5), 2);
    }

    @Sentence("A rule is active in a state if it has no condition or if C has that position in that state")
    static void section2_activeWithoutConditionAndInEitherPosition() {
        InterlockingFrame always = frame("levers 3;0 locks 1;");
        InterlockingFrame normal = frame("levers 3;0 locks 1 when 2 normal;");
        InterlockingFrame reversed = frame("levers 3;0 locks 1 when 2 reversed;");
        due("no condition, 2 normal", always.isLegal(3), 0);
        due("no condition, 2 reversed", always.isLegal(7), 0);
        due("when normal, 2 normal", normal.isLegal(3), 0);
        due("when normal, 2 reversed", normal.isLegal(7), 1);
        due("when reversed, 2 normal", reversed.isLegal(3), 1);
        due("when reversed, 2 reversed", reversed.isLegal(7), 0);
    }

    @Sentence("A rule is active in a state if it has no condition or if C has that position in that state")
    static void section2_conditionOfTheLowestAndOfTheHighestLever() {
        InterlockingFrame lowest = frame("levers 12;1 locks 2 when 0 normal;3 locks 4 when 0 reversed;");
        due("when 0 normal", lowest.isLegal(6), 0);
        due("when 0 normal, but it is not", lowest.isLegal(7), 1);
        due("when 0 reversed", lowest.isLegal(25), 0);
        due("when 0 reversed, but it is not", lowest.isLegal(24), 1);
        InterlockingFrame highest = frame("levers 12;1 locks 2 when 11 normal;3 locks 4 when 11 reversed;");
        due("when 11 normal", highest.isLegal(6), 0);
        due("when 11 normal, but it is not", highest.isLegal(2054), 1);
        due("when 11 reversed", highest.isLegal(2072), 0);
        due("when 11 reversed, but it is not", highest.isLegal(24), 1);
    }

    private static void legalStates(String sheet, int... legal) {
        InterlockingFrame frame = frame(sheet);
        for (int state = 0; state < legal.length; state++) {
            due("isLegal " + state + " with " + sheet, frame.isLegal(state), legal[state]);
        }
    }

    @Sentence("Kind 0, \"A locks B\": a state is illegal if the rule is active in it, A is reversed and B is reversed")
    static void section2_locksForbidsBothReversedAndNothingElse() {
        legalStates("levers 2;0 locks 1;", 1, 1, 1, 0);
        legalStates("levers 2;1 locks 0;", 1, 1, 1, 0);
        legalStates("levers 3;0 locks 1 when 2 reversed;", 1, 1, 1, 1, 1, 1, 1, 0);
    }

    @Sentence("Kind 1, \"A releases B\": a state is illegal if the rule is active in it, B is reversed and A is normal")
    static void section2_releasesForbidsBAloneAndNothingElse() {
        legalStates("levers 2;0 releases 1;", 1, 1, 0, 1);
        legalStates("levers 2;1 releases 0;", 1, 0, 1, 1);
        legalStates("levers 3;0 releases 1 when 2 normal;", 1, 1, 0, 1, 1, 1, 1, 1);
    }

    @Sentence("Kind 2, \"A holds B\": B must not be moved in a state in which the rule is active and A is reversed")
    static void section2_holdsKeepsBInEitherPosition() {
        InterlockingFrame frame = frame("levers 3;0 holds 1 when 2 normal;");
        due("A and B normal", frame.freeLevers(0), 7);
        due("A reversed, B normal", frame.freeLevers(1), 5);
        due("A normal, B reversed", frame.freeLevers(2), 7);
        due("A and B reversed", frame.freeLevers(3), 5);
        due("not active, B normal", frame.freeLevers(5), 7);
        due("not active, B reversed", frame.freeLevers(7), 7);
    }

    @Sentence("This kind makes no state illegal")
    static void section2_holdsMakesNoStateIllegal() {
        legalStates("levers 2;0 holds 1;1 holds 0;", 1, 1, 1, 1);
    }

    @Sentence("A state is legal if no rule makes it illegal")
    static void section2_noRuleAndTheLastOf24Rules() {
        legalStates("levers 2;", 1, 1, 1, 1);
        legalStates("levers 3;" + "0 locks 1;".repeat(23) + "0 locks 2;", 1, 1, 1, 0, 1, 0, 1, 0);
        legalStates("levers 3;0 locks 2;" + "0 locks 1;".repeat(23), 1, 1, 1, 0, 1, 0, 1, 0);
    }

    @Sentence("The home state is always legal")
    static void section2_homeIsLegalUnder24Rules() {
        InterlockingFrame frame = frame("levers 3;" + ("0 locks 1 when 2 normal;1 locks 2;1 releases 0 when 2 normal;"
                + "2 releases 1;0 holds 2 when 1 normal;2 holds 0;").repeat(4));
        due("ruleCount", frame.ruleCount(), 24);
        due("isLegal(0)", frame.isLegal(0), 1);
    }

    // ---- 3. Moves

    @Sentence("To move a lever means to change it from normal to reversed or from reversed to normal")
    static void section3_overAndBackAndOver() {
        InterlockingFrame frame = new InterlockingFrame();
        due("moveLever(1) over", frame.moveLever(1), 2);
        due("moveLever(1) back", frame.moveLever(1), 0);
        due("moveLever(1) over", frame.moveLever(1), 2);
    }

    @Sentence("A rule blocks the move of a lever in a state if it is of kind 2, forbids moving this lever in that state, "
            + "or if it is of kind 0 or 1 and makes the resulting state illegal")
    static void section3_theResultingStateCountsNotTheOneBefore() {
        InterlockingFrame frame = frame("levers 3;0 locks 1;");
        due("into an illegal state", frame.blockingRule(1, 1), 0);
        due("out of an illegal state", frame.blockingRule(3, 1), NONE);
        due("from an illegal state into another", frame.blockingRule(3, 2), 0);
        InterlockingFrame released = frame("levers 3;0 releases 1;");
        due("B over while A is normal", released.blockingRule(0, 1), 0);
        due("A back while B is reversed", released.blockingRule(3, 0), 0);
        due("out of an illegal state", released.blockingRule(2, 0), NONE);
    }

    @Sentence("A rule blocks the move of a lever in a state if it is of kind 2, forbids moving this lever in that state, "
            + "or if it is of kind 0 or 1 and makes the resulting state illegal")
    static void section3_aHoldLooksAtTheStateBeforeTheMove() {
        InterlockingFrame frame = frame("levers 3;0 holds 1 when 2 normal;");
        due("of lever B", frame.blockingRule(1, 1), 0);
        due("of lever A", frame.blockingRule(1, 0), NONE);
        due("of lever C, into a state in which it is active", frame.blockingRule(5, 2), NONE);
        due("of lever A, into a state in which it is active", frame.blockingRule(0, 0), NONE);
    }

    @Sentence("A move is allowed if no rule blocks it")
    static void section3_withoutRulesAllMovesAreAllowed() {
        InterlockingFrame frame = frame("levers 12;");
        due("freeLevers(0)", frame.freeLevers(0), 4095);
        due("freeLevers(4095)", frame.freeLevers(4095), 4095);
        InterlockingFrame last = frame("levers 3;" + "0 locks 1;".repeat(23) + "0 holds 2;");
        due("one of 24 rules blocks", last.freeLevers(1), 1);
    }

    @Sentence("A state is reachable if it is the home state or can be reached from the home state by allowed moves")
    static void section3_homeIsReachableEvenIfNothingMoves() {
        InterlockingFrame frame = frame(STUCK);
        due("reachableCount", frame.reachableCount(), 1);
        due("distance(0, 0)", frame.distance(0, 0), 0);
        due("isLegal(3)", frame.isLegal(3), 1);
        due("distance(3, 3) of a legal state that is not reachable", frame.distance(3, 3), NONE);
    }

    @Sentence("A state is reachable if it is the home state or can be reached from the home state by allowed moves")
    static void section3_reachableIsCountedFromHomeNotFromTheCurrentState() {
        InterlockingFrame frame = new InterlockingFrame();
        frame.moveLever(0);
        frame.moveLever(1);
        // Both rules leave the current state 3 legal, but from home neither lever can be the first.
        due("addRule", frame.addRule(1, 0, 1, NONE), 1);
        due("addRule", frame.addRule(1, 1, 0, NONE), 2);
        due("reachableCount", frame.reachableCount(), 1);
        due("distance(3, 3)", frame.distance(3, 3), NONE);
    }

    @Sentence("The distance between two reachable states is the smallest number of allowed moves that lead from one to the "
            + "other")
    static void section3_theDistanceTakesOnlyAllowedMoves() {
        InterlockingFrame free = new InterlockingFrame();
        due("distance(1, 3)", free.distance(1, 3), 1);
        InterlockingFrame held = frame("levers 2;0 holds 1;");
        due("distance(1, 3), lever 1 held", held.distance(1, 3), 3);
        due("distance(3, 1), lever 1 held", held.distance(3, 1), 3);
        due("distance(0, 3)", held.distance(0, 3), 2);
    }

    // ---- 4. Routes and conflicts

    @Sentence("There are at most 8 routes, numbered from 0 in the order of the sheet")
    static void section4_the8thRouteIsTheLast() {
        String sheet = "levers 8;route 0;route 1;route 2;route 3;route 4;route 5;route 6;route 7;";
        InterlockingFrame frame = frame(sheet);
        for (int route = 0; route < 8; route++) {
            due("routeLevers " + route, frame.routeLevers(route), 1 << route);
        }
        due("parseSheet of 9 routes", Check.parse(frame, sheet + "route 0;"), -34);
        due("routeCount", frame.routeCount(), 8);
    }

    @Sentence("A route is a set of 1 to 12 levers")
    static void section4_routesOf1And12Levers() {
        InterlockingFrame frame = frame("levers 12;route 11;route 0 1 2 3 4 5 6 7 8 9 10 11;");
        due("routeLevers(0)", frame.routeLevers(0), 2048);
        due("routeLevers(1)", frame.routeLevers(1), 4095);
        due("parseSheet of a route without levers", Check.parse(frame, "levers 12;route;"), -31);
        due("parseSheet of 13 levers", Check.parse(frame, "levers 12;route 0 1 2 3 4 5 6 7 8 9 10 11 0;"), -33);
    }

    @Sentence("A route is set in a state if all its levers are reversed in that state")
    static void section4_oneLeverShortIsNotSet() {
        InterlockingFrame frame = frame("levers 12;route 0 1 2 3 4 5 6 7 8 9 10 11;route 0 11;");
        due("jointStates(0, 0), all 12 levers", frame.jointStates(0, 0), 1);
        due("settingState(0)", frame.settingState(0), 4095);
        due("settingMoves(0)", frame.settingMoves(0), 12);
        due("jointStates(1, 1), the two outer levers", frame.jointStates(1, 1), 1024);
    }

    @Sentence("the other levers may have any position")
    static void section4_theOtherLeversMayHaveAnyPosition() {
        InterlockingFrame frame = frame("levers 3;1 releases 0;route 0;");
        due("settingState with lever 1 reversed too", frame.settingState(0), 3);
        due("jointStates with lever 2 in both positions", frame.jointStates(0, 0), 2);
    }

    @Sentence("A route is settable if it is set in some reachable state")
    static void section4_aLegalStateThatIsNotReachableDoesNotCount() {
        InterlockingFrame frame = frame(STUCK + "route 0 1;");
        due("isLegal(3)", frame.isLegal(3), 1);
        due("settingState(0)", frame.settingState(0), NONE);
        InterlockingFrame once = frame("levers 2;0 releases 1;route 0 1;");
        due("settingState(0), one reachable state", once.settingState(0), 3);
    }

    @Sentence("There are at most 8 declared conflicts, numbered from 0 in the order of the sheet")
    static void section4_the8thConflictIsTheLast() {
        String sheet = "levers 5;0 locks 1;2 locks 3;route 0;route 1;route 2;route 3;route 4;conflict 0 1;conflict 0 2;"
                + "conflict 0 3;conflict 0 4;conflict 1 2;conflict 1 3;conflict 1 4;conflict 2 3;";
        InterlockingFrame frame = frame(sheet);
        due("conflictCount", frame.conflictCount(), 8);
        due("unprotectedConflicts, all but the first and the last", frame.unprotectedConflicts(), 126);
        due("parseSheet of 9 conflicts", Check.parse(frame, sheet + "conflict 2 4;"), -34);
        due("conflictCount", frame.conflictCount(), 8);
    }

    @Sentence("A conflict is a pair of two different routes")
    static void section4_theTwoRoutesOfAConflictAreDifferent() {
        InterlockingFrame frame = new InterlockingFrame();
        due("parseSheet of a route with itself", Check.parse(frame, "levers 2;route 0;conflict 0 0;"), -33);
        due("parseSheet of two routes of the same levers",
                Check.parse(frame, "levers 2;route 0;route 0;conflict 0 1;"), 4);
        due("unprotectedConflicts", frame.unprotectedConflicts(), 1);
    }

    @Sentence("A conflict is protected if no reachable state sets both routes")
    static void section4_oneReachableStateIsEnough() {
        InterlockingFrame one = frame("levers 2;0 releases 1;route 0;route 1;conflict 0 1;");
        due("jointStates(0, 1)", one.jointStates(0, 1), 1);
        due("unprotectedConflicts, one state", one.unprotectedConflicts(), 1);
        InterlockingFrame none = frame(STUCK + "route 0;route 1;conflict 0 1;");
        due("unprotectedConflicts, a legal state out of reach", none.unprotectedConflicts(), 0);
    }

    // ---- 8. Errors of methods

    private static final String BUSY_SHEET = "levers 3;0 locks 1;1 holds 2;route 0 2;route 1;conflict 1 0;";

    /** A frame in use: calls to undo, a parse error and bytes in the buffer. */
    private static InterlockingFrame busyFrame() {
        InterlockingFrame frame = frame(BUSY_SHEET);
        Check.parse(frame, "levers 3;0 locks 0;");
        frame.moveLever(0);
        frame.addRule(1, 0, 2, NONE);
        frame.removeRule(1);
        frame.appendBytes(0x6C657665, 0x72732034, 0x3B30206C, 0x6F636B73, 0x20333B20);
        return frame;
    }

    private static void unchanged(InterlockingFrame frame) {
        same("the refused calls changed nothing", wholeStory(frame), wholeStory(busyFrame()));
    }

    @Sentence("A method that returns one of the constants NO_SUCH, BAD_VALUE, FULL, EMPTY or BLOCKED changes nothing")
    static void section8_noSuchChangesNothing() {
        InterlockingFrame frame = busyFrame();
        due("moveLever(3)", frame.moveLever(3), NO_SUCH);
        due("addRule", frame.addRule(0, 0, 3, NONE), NO_SUCH);
        due("addRule", frame.addRule(0, 3, 0, NONE), NO_SUCH);
        due("addRule", frame.addRule(0, 0, 1, 6), NO_SUCH);
        due("removeRule", frame.removeRule(2), NO_SUCH);
        due("proposedLock", frame.proposedLock(1), NO_SUCH);
        due("testMove", frame.testMove(2, 0), NO_SUCH);
        due("isMergeable", frame.isMergeable(0, 3), NO_SUCH);
        due("mergedReachableCount", frame.mergedReachableCount(3, 0), NO_SUCH);
        unchanged(frame);
    }

    @Sentence("A method that returns one of the constants NO_SUCH, BAD_VALUE, FULL, EMPTY or BLOCKED changes nothing")
    static void section8_badValueChangesNothing() {
        InterlockingFrame frame = busyFrame();
        due("parseSheet(21)", frame.parseSheet(21), BAD_VALUE);
        due("parseSheet(-1)", frame.parseSheet(-1), BAD_VALUE);
        due("addRule", frame.addRule(3, 0, 1, NONE), BAD_VALUE);
        due("addRule", frame.addRule(0, 1, 1, NONE), BAD_VALUE);
        due("addRule", frame.addRule(0, 0, 1, -2), BAD_VALUE);
        due("isLegal", frame.isLegal(8), BAD_VALUE);
        due("blockingRule", frame.blockingRule(8, 0), BAD_VALUE);
        due("freeLevers", frame.freeLevers(8), BAD_VALUE);
        due("distance", frame.distance(0, 8), BAD_VALUE);
        due("nextMove", frame.nextMove(0, 8), BAD_VALUE);
        due("completionLock", frame.completionLock(-1), BAD_VALUE);
        due("testMove", frame.testMove(0, -1), BAD_VALUE);
        due("isMergeable", frame.isMergeable(1, 1), BAD_VALUE);
        due("mergedReachableCount", frame.mergedReachableCount(1, 1), BAD_VALUE);
        unchanged(frame);
    }

    @Sentence("A method that returns one of the constants NO_SUCH, BAD_VALUE, FULL, EMPTY or BLOCKED changes nothing")
    static void section8_fullChangesNothing() {
        String sheet = "levers 3;" + "0 locks 1;".repeat(24);
        String padded = sheet + " ".repeat(900 - sheet.length());
        InterlockingFrame frame = frame(sheet);
        Check.append(frame, padded.getBytes());
        frame.moveLever(2);
        due("appendBytes", frame.appendBytes(-1, -1, -1, -1, -1), FULL);
        due("addRule", frame.addRule(2, 0, 1, NONE), FULL);
        InterlockingFrame other = frame(sheet);
        Check.append(other, padded.getBytes());
        other.moveLever(2);
        same("the refused calls changed nothing", wholeStory(frame), wholeStory(other));
    }

    @Sentence("A method that returns one of the constants NO_SUCH, BAD_VALUE, FULL, EMPTY or BLOCKED changes nothing")
    static void section8_emptyChangesNothing() {
        InterlockingFrame frame = frame(BUSY_SHEET);
        due("undo", frame.undo(), EMPTY);
        due("undo", frame.undo(), EMPTY);
        same("the refused calls changed nothing", wholeStory(frame), wholeStory(frame(BUSY_SHEET)));
    }

    @Sentence("A method that returns one of the constants NO_SUCH, BAD_VALUE, FULL, EMPTY or BLOCKED changes nothing")
    static void section8_blockedChangesNothing() {
        InterlockingFrame frame = busyFrame();
        due("moveLever(1)", frame.moveLever(1), BLOCKED);
        due("addRule", frame.addRule(1, 1, 0, NONE), BLOCKED);
        unchanged(frame);
    }

    @Sentence("If several of them apply, the one named first in the description is returned")
    static void section8_addRuleNamesTheFirstRefusal() {
        InterlockingFrame frame = frame("levers 3;" + "0 locks 1;".repeat(24));
        frame.moveLever(2);
        due("NO_SUCH before BAD_VALUE, kind", frame.addRule(3, 0, 3, NONE), NO_SUCH);
        due("NO_SUCH before BAD_VALUE, condition below NONE", frame.addRule(0, 3, 0, -2), NO_SUCH);
        due("NO_SUCH before BAD_VALUE, equal levers", frame.addRule(0, 3, 3, NONE), NO_SUCH);
        due("NO_SUCH of the condition before BAD_VALUE", frame.addRule(3, 1, 1, 6), NO_SUCH);
        due("NO_SUCH before FULL", frame.addRule(0, 0, 3, NONE), NO_SUCH);
        due("BAD_VALUE before FULL, kind", frame.addRule(3, 0, 1, NONE), BAD_VALUE);
        due("BAD_VALUE before FULL, condition", frame.addRule(0, 0, 1, -2), BAD_VALUE);
        due("BAD_VALUE before FULL, equal levers", frame.addRule(0, 1, 1, NONE), BAD_VALUE);
        due("BAD_VALUE before FULL, equal condition", frame.addRule(0, 0, 1, 3), BAD_VALUE);
        due("FULL before BLOCKED", frame.addRule(1, 0, 2, NONE), FULL);
    }

    @Sentence("If several of them apply, the one named first in the description is returned")
    static void section8_theOtherMethodsNameTheFirstRefusal() {
        InterlockingFrame frame = frame("levers 3;0 locks 1;");
        due("blockingRule: NO_SUCH before BAD_VALUE", frame.blockingRule(8, 3), NO_SUCH);
        due("blockingRule: NO_SUCH before BAD_VALUE", frame.blockingRule(-1, -1), NO_SUCH);
        due("testMove: NO_SUCH before BAD_VALUE", frame.testMove(1, -1), NO_SUCH);
        due("isMergeable: NO_SUCH before BAD_VALUE", frame.isMergeable(3, 3), NO_SUCH);
        due("isMergeable: NO_SUCH before BAD_VALUE", frame.isMergeable(-1, -1), NO_SUCH);
        due("mergedReachableCount: NO_SUCH before BAD_VALUE", frame.mergedReachableCount(3, 3), NO_SUCH);
        due("mergedReachableCount: NO_SUCH before BAD_VALUE", frame.mergedReachableCount(-1, -1), NO_SUCH);
    }
}
