/** The boundaries of section 5 of the description and of promises 36 to 39: implied rules, reduction and tests. */
public final class ReductionBoundaryTest extends BoundaryTests {
    public static void main(String[] args) throws IllegalAccessException {
        runSentences(ReductionBoundaryTest.class);
    }

    /** 24 locks between neighbours, and neighbours of neighbours, in a ring of 12 levers: none implies another. */
    private static InterlockingFrame ring() {
        StringBuilder sheet = new StringBuilder("levers 12;");
        for (int step = 1; step <= 2; step++) {
            for (int lever = 0; lever < 12; lever++) {
                sheet.append(lever).append(" locks ").append((lever + step) % 12).append(';');
            }
        }
        return frame(sheet.toString());
    }

    private static void impliedRules(String sheet, int... due) {
        InterlockingFrame frame = frame(sheet);
        for (int rule = 0; rule < due.length; rule++) {
            due("isImplied " + rule + " of " + sheet, frame.isImplied(rule), due[rule]);
        }
    }

    // ---- 5. Implied rules, reduction and tests

    @Sentence("A rule is implied by a set of other rules if the set alone gives exactly the same reachable states, and the "
            + "same allowed moves in each of them, as the set together with the rule")
    static void section5_aRuleThatBitesOnlyOutOfReachIsImplied() {
        impliedRules("levers 3;0 releases 1;1 releases 0;0 locks 2;0 holds 2;", 0, 0, 1, 1);
        impliedRules("levers 3;0 locks 1;0 holds 2 when 1 reversed;", 0, 1);
    }

    @Sentence("A rule is implied by a set of other rules if the set alone gives exactly the same reachable states, and the "
            + "same allowed moves in each of them, as the set together with the rule")
    static void section5_theSameStatesByOtherMovesAreNotEnough() {
        InterlockingFrame frame = frame("levers 2;0 holds 1;");
        due("reachableCount", frame.reachableCount(), 4);
        due("isImplied(0)", frame.isImplied(0), 0);
        frame.removeRule(0);
        due("reachableCount without it", frame.reachableCount(), 4);
    }

    @Sentence("It starts with all rules")
    static void section5_ofNoneAndOf24RulesNoneIsDropped() {
        due("reducedSheet of no rules", new InterlockingFrame().reducedSheet(), 0);
        due("reducedSheet of 24 rules", ring().reducedSheet(), 16777215);
    }

    @Sentence("The rules are examined from the highest number down to 0")
    static void section5_theHighestFirstAndRule0Too() {
        due("the higher of two twins goes", frame("levers 2;0 locks 1;1 locks 0;").reducedSheet(), 1);
        due("two halves and the whole",
                frame("levers 3;0 locks 1 when 2 normal;0 locks 1 when 2 reversed;0 locks 1;").reducedSheet(), 3);
        due("the whole and two halves",
                frame("levers 3;0 locks 1;0 locks 1 when 2 normal;0 locks 1 when 2 reversed;").reducedSheet(), 1);
        due("rule 0 is dropped", frame("levers 3;0 locks 1 when 2 normal;0 locks 1;").reducedSheet(), 2);
        due("the first of 24 twins stays", frame("levers 2;" + "0 locks 1;".repeat(24)).reducedSheet(), 1);
    }

    @Sentence("An examined rule is dropped if the remaining rules imply it")
    static void section5_droppedRulesImplyNothing() {
        InterlockingFrame frame = frame("levers 2;0 holds 1;0 holds 1;0 holds 1;");
        for (int rule = 0; rule < 3; rule++) {
            due("isImplied " + rule, frame.isImplied(rule), 1);
        }
        due("reducedSheet", frame.reducedSheet(), 1);
        // Rules with lower numbers remain until they are examined.
        due("a later rule needs an earlier one", frame("levers 3;0 locks 1;0 locks 1 when 2 normal;").reducedSheet(), 1);
    }

    @Sentence("A test for a rule is a sequence of moves that starts in the home state")
    static void section5_aTestStartsAtHomeWhateverTheCurrentState() {
        InterlockingFrame frame = frame("levers 3;0 locks 1;");
        frame.moveLever(1);
        frame.moveLever(2);
        dueMoves("from home", frame, 0, 0, 1);
    }

    @Sentence("All moves but the last one are allowed by the complete sheet")
    static void section5_theMovesBeforeTheLastAreAllowed() {
        dueMoves("no move before the last", frame("levers 2;0 releases 1;"), 0, 1);
        // Lever 0 cannot be the first, as it needs lever 2.
        dueMoves("round a blocked move", frame("levers 3;2 releases 0;0 locks 1;"), 1, 1, 2, 0);
    }

    @Sentence("The last move is not allowed by the complete sheet, but it would be allowed if the rule were missing from the "
            + "sheet")
    static void section5_theLastMoveIsBlockedByThisRuleAlone() {
        InterlockingFrame twins = frame("levers 2;0 locks 1;1 locks 0;");
        due("testLength(0), both block", twins.testLength(0), NONE);
        due("testLength(1), both block", twins.testLength(1), NONE);
        // The hold blocks lever 1 as well, so the lock shows only when lever 0 is moved.
        InterlockingFrame half = frame("levers 2;0 locks 1;0 holds 1;");
        dueMoves("by the other lever", half, 0, 1, 0);
        due("testLength(1)", half.testLength(1), NONE);
    }

    @Sentence("The shortest test is used")
    static void section5_theShortestBeforeTheFirstInOrder() {
        dueMoves("not 0, 1, 2", frame("levers 3;1 locks 2;"), 0, 1, 2);
        dueMoves("not 0, 1", frame("levers 2;1 holds 0;"), 0, 1, 0);
        dueMoves("not 0, 2", frame("levers 3;1 releases 2;"), 0, 2);
    }

    @Sentence("among several shortest tests, the one whose sequence of lever numbers comes first in lexicographic order")
    static void section5_theFirstInOrderOfTheShortest() {
        dueMoves("any order of three", frame("levers 4;3 locks 1 when 2 reversed;"), 0, 1, 2, 3);
        dueMoves("the highest levers", frame("levers 12;11 locks 9 when 10 reversed;"), 0, 9, 10, 11);
        dueMoves("a release shows at two levers", frame("levers 3;0 releases 1;0 releases 2;0 holds 1;"), 1, 2);
        // Two levers may be the last one; the lower is taken.
        dueMoves("the lower of two last moves", frame("levers 3;0 locks 2;0 locks 1 when 2 normal;"), 1, 0, 1);
    }

    // ---- 36. isImplied

    @Sentence("Returns 1 if it is implied, otherwise 0")
    static void promise36_theOnlyRuleAndOneOf24() {
        due("isImplied of the only rule", frame("levers 2;0 locks 1;").isImplied(0), 0);
        due("isImplied of an only rule that bites out of reach",
                frame("levers 3;0 releases 1;1 releases 0;1 locks 2;").isImplied(2), 1);
        InterlockingFrame ring = ring();
        InterlockingFrame twins = frame("levers 2;" + "0 locks 1;".repeat(24));
        for (int rule = 0; rule < 24; rule++) {
            due("isImplied " + rule + " of the ring", ring.isImplied(rule), 0);
            due("isImplied " + rule + " of twins", twins.isImplied(rule), 1);
        }
    }

    @Sentence("NO_SUCH if the rule does not exist")
    static void promise36_noSuchRule() {
        noSuchBeyond("isImplied without rules", new InterlockingFrame()::isImplied, 0);
        noSuchBeyond("isImplied of 1 rule", frame("levers 2;0 locks 1;")::isImplied, 1);
        noSuchBeyond("isImplied of 24 rules", ring()::isImplied, 24);
    }

    // ---- 37. reducedSheet

    @Sentence("Returns the rules that are not dropped, as a bit set")
    static void promise37_fromNoRuleTo24() {
        due("reducedSheet without rules", new InterlockingFrame().reducedSheet(), 0);
        due("reducedSheet of one rule", frame("levers 2;0 locks 1;").reducedSheet(), 1);
        due("reducedSheet of the ring", ring().reducedSheet(), 16777215);
        due("reducedSheet, the last of 24 stays",
                frame("levers 3;" + "0 locks 1 when 2 normal;".repeat(23) + "0 locks 1;").reducedSheet(), 1 << 23);
        InterlockingFrame frame = frame("levers 3;0 locks 1;1 locks 0;0 holds 2;");
        due("reducedSheet", frame.reducedSheet(), 5);
        frame.removeRule(0);
        due("reducedSheet after a removal", frame.reducedSheet(), 3);
        due("ruleCount, nothing is dropped from the frame", frame.ruleCount(), 2);
    }

    // ---- 38. testLength

    @Sentence("Returns the number of moves of the test for a rule, including the last one")
    static void promise38_from1MoveTo12() {
        due("testLength of one move", frame("levers 2;0 releases 1;").testLength(0), 1);
        due("testLength of two moves", frame("levers 2;0 locks 1;").testLength(0), 2);
        InterlockingFrame far = frame("levers 12;0 releases 1;1 releases 2;2 releases 3;3 releases 4;4 releases 5;"
                + "5 releases 6;6 releases 7;7 releases 8;8 releases 9;9 releases 10;10 locks 11;");
        due("testLength of all 12 levers", far.testLength(10), 12);
    }

    @Sentence("NONE if there is no test")
    static void promise38_noneOfAnImpliedRule() {
        InterlockingFrame frame = frame("levers 3;0 locks 1;0 locks 1 when 2 normal;0 locks 1 when 2 reversed;");
        for (int rule = 0; rule < 3; rule++) {
            due("testLength " + rule, frame.testLength(rule), NONE);
        }
        due("testLength out of reach", frame("levers 3;0 releases 1;1 releases 0;1 holds 2;").testLength(2), NONE);
    }

    @Sentence("NO_SUCH if the rule does not exist")
    static void promise38_noSuchRule() {
        noSuchBeyond("testLength without rules", new InterlockingFrame()::testLength, 0);
        noSuchBeyond("testLength of 1 rule", frame("levers 2;0 locks 1;")::testLength, 1);
        noSuchBeyond("testLength of 24 rules", ring()::testLength, 24);
    }

    // ---- 39. testMove

    @Sentence("- `index`: index of the move, from 0")
    static void promise39_theFirstAndTheLastMove() {
        InterlockingFrame frame = frame("levers 12;11 locks 9 when 10 reversed;");
        due("testMove(0, 0)", frame.testMove(0, 0), 9);
        due("testMove(0, 1)", frame.testMove(0, 1), 10);
        due("testMove(0, 2)", frame.testMove(0, 2), 11);
        due("testMove(23, 0) of the last of 24 rules", ring().testMove(23, 0), 1);
        due("testMove(23, 1) of the last of 24 rules", ring().testMove(23, 1), 11);
    }

    @Sentence("NONE if there is no test or it has no such move")
    static void promise39_noneWithoutTest() {
        InterlockingFrame frame = frame("levers 2;0 locks 1;1 locks 0;");
        for (int index : new int[] {0, 1, 24, MAX}) {
            due("testMove 0, " + index, frame.testMove(0, index), NONE);
            due("testMove 1, " + index, frame.testMove(1, index), NONE);
        }
    }

    @Sentence("NONE if there is no test or it has no such move")
    static void promise39_noneBehindTheLastMove() {
        InterlockingFrame frame = frame("levers 2;0 locks 1;");
        due("testMove(0, 1)", frame.testMove(0, 1), 1);
        for (int index : new int[] {2, 3, 32, 4096, MAX}) {
            due("testMove 0, " + index, frame.testMove(0, index), NONE);
        }
    }

    @Sentence("NO_SUCH if the rule does not exist")
    static void promise39_noSuchRule() {
        InterlockingFrame none = new InterlockingFrame();
        noSuchBeyond("testMove without rules", rule -> none.testMove(rule, 0), 0);
        InterlockingFrame ring = ring();
        noSuchBeyond("testMove of 24 rules", rule -> ring.testMove(rule, 0), 24);
        noSuchBeyond("testMove of 24 rules, far index", rule -> ring.testMove(rule, MAX), 24);
    }

    @Sentence("BAD_VALUE if the index is negative")
    static void promise39_negativeIndex() {
        InterlockingFrame tested = frame("levers 2;0 locks 1;");
        InterlockingFrame untested = frame("levers 2;0 locks 1;1 locks 0;");
        for (int index : new int[] {-1, -2, MIN}) {
            due("testMove 0, " + index, tested.testMove(0, index), BAD_VALUE);
            due("testMove 0, " + index + " without test", untested.testMove(0, index), BAD_VALUE);
        }
    }
}
