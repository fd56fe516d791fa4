/** The boundaries of section 6 of the description and of promises 40 to 42: merging levers. */
public final class MergingBoundaryTest extends BoundaryTests {
    /** Seven levers of which each locks all others, and a route for each: no two can be merged. */
    private static final String APART = "levers 7;0 locks 1;0 locks 2;0 locks 3;0 locks 4;0 locks 5;0 locks 6;1 locks 2;"
            + "1 locks 3;1 locks 4;1 locks 5;1 locks 6;2 locks 3;2 locks 4;2 locks 5;2 locks 6;3 locks 4;3 locks 5;3 locks 6;"
            + "4 locks 5;4 locks 6;5 locks 6;route 0;route 1;route 2;route 3;route 4;route 5;route 6;";

    public static void main(String[] args) throws IllegalAccessException {
        runSentences(MergingBoundaryTest.class);
    }

    private static void mergedCount(String sheet, int low, int high, int due) {
        due("mergedReachableCount(" + low + ", " + high + ") of " + sheet, frame(sheet).mergedReachableCount(low, high), due);
    }

    private static void mergeable(String sheet, int low, int high, int due) {
        due("isMergeable(" + low + ", " + high + ") of " + sheet, frame(sheet).isMergeable(low, high), due);
    }

    private static void leversLeft(String sheet, int due) {
        due("leversAfterMerging of " + sheet, frame(sheet).leversAfterMerging(), due);
    }

    // ---- 6. Merging levers

    @Sentence("Merging lever B into lever A, where A is less than B, means that each mention of B in rules and routes is "
            + "replaced by A")
    static void section6_everyMentionInARuleIsReplaced() {
        mergedCount("levers 3;1 locks 2;", 0, 1, 3);
        mergedCount("levers 3;2 locks 1;", 0, 1, 3);
        mergedCount("levers 3;2 releases 1;", 0, 1, 3);
        mergedCount("levers 3;1 releases 2;", 0, 1, 3);
        mergedCount("levers 4;2 locks 3 when 1 reversed;", 0, 1, 7);
        mergedCount("levers 4;2 locks 3 when 1 normal;", 0, 1, 7);
        mergedCount("levers 12;10 locks 11 when 9 normal;", 0, 11, 1792);
        // Both levers of the one rule and the condition of the other are the merged lever.
        mergedCount("levers 4;1 locks 2;2 locks 3 when 1 normal;", 0, 1, 5);
    }

    @Sentence("Merging lever B into lever A, where A is less than B, means that each mention of B in rules and routes is "
            + "replaced by A")
    static void section6_everyMentionInARouteIsReplaced() {
        mergeable("levers 3;route 1;", 0, 1, 1);
        mergeable("levers 3;route 0 1;", 0, 1, 1);
        mergeable("levers 12;route 11;route 0 11;route 0;", 0, 11, 1);
        // Route 1 becomes route 0 with lever 2, and 0 and 2 lock each other.
        mergeable("levers 3;0 locks 2;route 1 2;", 0, 1, 0);
    }

    @Sentence("lever B stays normal and is never moved again")
    static void section6_theMergedLeverStaysNormal() {
        mergedCount("levers 2;", 0, 1, 2);
        mergedCount("levers 12;", 0, 11, 2048);
        mergedCount("levers 12;", 10, 11, 2048);
        // Lever 1 would be free to move, if it were still there.
        mergedCount("levers 3;0 locks 1;", 0, 1, 2);
    }

    @Sentence("If the replacement makes A and B of a rule equal, the rule is read as follows: a rule of kind 0 makes every "
            + "state illegal in which it is active and A is reversed")
    static void section6_aLockOfALeverWithItself() {
        mergedCount("levers 2;0 locks 1;", 0, 1, 1);
        mergedCount("levers 2;1 locks 0;", 0, 1, 1);
        mergedCount("levers 3;0 locks 1 when 2 normal;", 0, 1, 3);
        mergedCount("levers 3;0 locks 1 when 2 reversed;", 0, 1, 3);
        mergeable("levers 3;0 locks 1 when 2 normal;route 0;", 0, 1, 1);
        mergeable("levers 3;0 locks 1;route 0;", 0, 1, 0);
        mergedCount("levers 12;10 locks 11 when 9 normal;", 10, 11, 1536);
    }

    @Sentence("a rule of kind 1 or 2 has no effect")
    static void section6_aReleaseOrAHoldOfALeverByItself() {
        mergedCount("levers 2;0 releases 1;", 0, 1, 2);
        mergedCount("levers 2;1 releases 0;", 0, 1, 2);
        mergedCount("levers 3;0 releases 1 when 2 normal;", 0, 1, 4);
        mergedCount(STUCK, 0, 1, 2);
        // Lever 2 goes over only while lever 0 is reversed; if lever 0 held itself, it could not go back then.
        String sheet = "levers 4;0 holds 1;3 releases 2;3 holds 2 when 0 normal;";
        mergedCount(sheet, 0, 1, 6);
        mergedCount(sheet.replace("0 holds 1", "1 holds 0"), 0, 1, 6);
    }

    @Sentence("If the condition lever becomes equal to one of the two levers, the rule stays as it is and its condition is "
            + "tested as usual")
    static void section6_theConditionOfALockBecomesOneOfItsLevers() {
        for (int lever = 0; lever <= 1; lever++) {
            mergedCount("levers 3;0 locks 1 when 2 reversed;", lever, 2, 3);
            mergedCount("levers 3;0 locks 1 when 2 normal;", lever, 2, 4);
        }
        // Here the rule's lever is replaced by the condition's.
        mergedCount("levers 3;1 locks 2 when 0 reversed;", 0, 1, 3);
        mergedCount("levers 3;1 locks 2 when 0 normal;", 0, 2, 4);
    }

    @Sentence("If the condition lever becomes equal to one of the two levers, the rule stays as it is and its condition is "
            + "tested as usual")
    static void section6_theConditionOfAReleaseBecomesOneOfItsLevers() {
        mergedCount("levers 3;0 releases 1 when 2 normal;", 0, 2, 3);
        mergedCount("levers 3;0 releases 1 when 2 reversed;", 0, 2, 4);
        mergedCount("levers 3;0 releases 1 when 2 normal;", 1, 2, 4);
        mergedCount("levers 3;0 releases 1 when 2 reversed;", 1, 2, 3);
    }

    @Sentence("If the condition lever becomes equal to one of the two levers, the rule stays as it is and its condition is "
            + "tested as usual")
    static void section6_theConditionOfAHoldBecomesOneOfItsLevers() {
        mergedCount("levers 3;0 releases 1;0 holds 1 when 2 reversed;", 0, 2, 2);
        mergedCount("levers 3;0 releases 1;0 holds 1 when 2 normal;", 0, 2, 3);
        // The condition is that of the state before the move: lever 1 is held where it is normal, or where it is reversed.
        mergedCount("levers 3;0 releases 1;0 holds 1 when 2 normal;", 1, 2, 2);
        mergedCount("levers 3;0 releases 1;0 holds 1 when 2 reversed;", 1, 2, 3);
    }

    @Sentence("Two levers are mergeable if every route that is settable in the frame is also settable after the merge, and "
            + "every conflict that is protected in the frame is also protected after the merge")
    static void section6_settableRoutesStaySettable() {
        mergeable("levers 2;0 locks 1;", 0, 1, 1);
        mergeable("levers 2;0 locks 1;route 0;", 0, 1, 0);
        mergeable("levers 2;0 locks 1;route 1;", 0, 1, 0);
        // A route that is not settable before need not be settable after.
        mergeable("levers 2;0 locks 1;route 0 1;", 0, 1, 1);
        mergeable("levers 3;0 locks 1;" + "route 2;".repeat(7) + "route 1;", 0, 1, 0);
    }

    @Sentence("Two levers are mergeable if every route that is settable in the frame is also settable after the merge, and "
            + "every conflict that is protected in the frame is also protected after the merge")
    static void section6_protectedConflictsStayProtected() {
        // The lever 2 can never be reversed, so the lock is always active; merged with lever 3 it can.
        String sheet = "levers 4;0 locks 1 when 2 normal;2 releases 3;3 releases 2;route 0;route 1;";
        mergeable(sheet, 2, 3, 1);
        mergeable(sheet + "conflict 0 1;", 2, 3, 0);
        // A conflict that is not protected before need not be protected after.
        mergeable("levers 3;route 0;route 1;conflict 0 1;", 0, 1, 1);
        mergeable("levers 3;route 0;route 1;conflict 0 1;", 0, 2, 1);
    }

    // ---- 40. isMergeable

    @Sentence("The higher lever is merged into the lower one, whatever the order of the parameters")
    static void promise40_eitherOrderOfTheParameters() {
        String sheet = "levers 3;0 locks 1;route 0;route 1 2;";
        int[][] pairs = {{0, 1, 0}, {0, 2, 0}, {1, 2, 1}};
        for (int[] pair : pairs) {
            mergeable(sheet, pair[0], pair[1], pair[2]);
            mergeable(sheet, pair[1], pair[0], pair[2]);
        }
    }

    @Sentence("- `leverB`: number of a different lever")
    static void promise40_everyDifferentLever() {
        InterlockingFrame frame = frame("levers 12;");
        for (int lever = 1; lever < 12; lever++) {
            due("isMergeable 0, " + lever, frame.isMergeable(0, lever), 1);
            due("isMergeable " + lever + ", 0", frame.isMergeable(lever, 0), 1);
        }
    }

    @Sentence("Returns 1 if the levers are mergeable, otherwise 0")
    static void promise40_allPairsAndNoPair() {
        InterlockingFrame apart = frame(APART);
        for (int low = 0; low < 7; low++) {
            for (int high = low + 1; high < 7; high++) {
                due("isMergeable " + low + ", " + high + " of levers apart", apart.isMergeable(low, high), 0);
            }
        }
        due("isMergeable of a new object", new InterlockingFrame().isMergeable(0, 1), 1);
    }

    @Sentence("NO_SUCH if a lever does not exist")
    static void promise40_noSuchLever() {
        InterlockingFrame frame = frame("levers 12;");
        noSuchBeyond("isMergeable, lever A", lever -> frame.isMergeable(lever, 5), 12);
        noSuchBeyond("isMergeable, lever B", lever -> frame.isMergeable(5, lever), 12);
        noSuchBeyond("isMergeable, both", lever -> frame.isMergeable(lever, lever), 12);
        noSuchBeyond("isMergeable of 2 levers", lever -> new InterlockingFrame().isMergeable(lever, 0), 2);
    }

    @Sentence("BAD_VALUE if both levers are equal")
    static void promise40_equalLevers() {
        InterlockingFrame frame = frame("levers 12;");
        for (int lever = 0; lever < 12; lever++) {
            due("isMergeable with itself, " + lever, frame.isMergeable(lever, lever), BAD_VALUE);
        }
    }

    // ---- 41. mergedReachableCount

    @Sentence("The higher lever is merged into the lower one, whatever the order of the parameters")
    static void promise41_eitherOrderOfTheParameters() {
        String sheet = "levers 4;0 locks 1;2 releases 3;";
        int[][] pairs = {{0, 1, 3}, {0, 2, 4}, {0, 3, 5}, {1, 2, 4}, {1, 3, 5}, {2, 3, 6}};
        for (int[] pair : pairs) {
            mergedCount(sheet, pair[0], pair[1], pair[2]);
            mergedCount(sheet, pair[1], pair[0], pair[2]);
        }
    }

    @Sentence("it stays normal in all of these states")
    static void promise41_halfOfTheStatesAtMost() {
        mergedCount("levers 12;", 0, 1, 2048);
        mergedCount("levers 12;", 11, 0, 2048);
        mergedCount("levers 2;", 0, 1, 2);
    }

    @Sentence("Counts the reachable states of the frame after a merge")
    static void promise41_homeAloneAndMoreThanBefore() {
        mergedCount("levers 2;0 locks 1;", 0, 1, 1);
        InterlockingFrame stuck = frame(STUCK);
        due("reachableCount", stuck.reachableCount(), 1);
        due("mergedReachableCount, more than before", stuck.mergedReachableCount(0, 1), 2);
        due("reachableCount after asking", stuck.reachableCount(), 1);
    }

    @Sentence("- `leverB`: number of a different lever")
    static void promise41_everyDifferentLever() {
        InterlockingFrame frame = frame("levers 12;");
        for (int lever = 1; lever < 12; lever++) {
            due("mergedReachableCount 0, " + lever, frame.mergedReachableCount(0, lever), 2048);
            due("mergedReachableCount " + lever + ", 0", frame.mergedReachableCount(lever, 0), 2048);
        }
    }

    @Sentence("NO_SUCH if a lever does not exist")
    static void promise41_noSuchLever() {
        InterlockingFrame frame = frame("levers 12;");
        noSuchBeyond("mergedReachableCount, lever A", lever -> frame.mergedReachableCount(lever, 5), 12);
        noSuchBeyond("mergedReachableCount, lever B", lever -> frame.mergedReachableCount(5, lever), 12);
        noSuchBeyond("mergedReachableCount, both", lever -> frame.mergedReachableCount(lever, lever), 12);
        noSuchBeyond("mergedReachableCount of 2 levers", lever -> new InterlockingFrame().mergedReachableCount(0, lever), 2);
    }

    @Sentence("BAD_VALUE if both levers are equal")
    static void promise41_equalLevers() {
        InterlockingFrame frame = frame("levers 12;");
        for (int lever = 0; lever < 12; lever++) {
            due("mergedReachableCount with itself, " + lever, frame.mergedReachableCount(lever, lever), BAD_VALUE);
        }
    }

    // ---- 42. leversAfterMerging

    @Sentence("Merges as many levers as possible, one pair after the other")
    static void promise42_allLeversAndNone() {
        leversLeft("levers 12;", 1);
        leversLeft("levers 2;", 1);
        leversLeft("levers 2;0 locks 1;route 0;", 2);
        leversLeft(APART, 7);
    }

    @Sentence("In each step the first mergeable pair of levers that have not been merged into others yet is merged, in the "
            + "frame as it is after the previous steps")
    static void promise42_eachStepIsInTheFrameAfterTheOneBefore() {
        // Lever 0 can be merged with 1 or with 2, but not with both.
        InterlockingFrame frame = frame("levers 3;1 locks 2;route 1;route 2;");
        due("isMergeable(0, 1)", frame.isMergeable(0, 1), 1);
        due("isMergeable(0, 2)", frame.isMergeable(0, 2), 1);
        due("leversAfterMerging", frame.leversAfterMerging(), 2);
        // Levers that are merged are not taken again: of three that may all be merged one is left.
        leversLeft("levers 3;", 1);
        leversLeft("levers 3;0 locks 1;route 0;route 1;", 2);
    }

    @Sentence("pairs are ordered by the lower lever, then by the higher lever")
    static void promise42_theOrderOfThePairs() {
        // 0 and 1 come first, and then neither can be merged with 2 or 3; 0 and 3, then 1 and 2 would leave two levers.
        String sheet = "levers 4;0 locks 2;2 locks 3;3 locks 1;route 0;route 1;route 2;route 3;";
        mergeable(sheet, 0, 3, 1);
        mergeable(sheet, 1, 2, 1);
        leversLeft(sheet, 3);
    }

    @Sentence("\"Settable\" and \"protected\" refer to the original frame in every step")
    static void promise42_settableRefersToTheOriginalFrame() {
        // Merging 0 and 1 makes route 0 settable, merging 0 and 2 takes that back.
        leversLeft("levers 3;0 releases 1;1 releases 0;0 locks 2;route 0;", 1);
    }

    @Sentence("\"Settable\" and \"protected\" refer to the original frame in every step")
    static void promise42_protectedRefersToTheOriginalFrame() {
        // Merging 0 and 1 protects the conflict, merging 3 and 4 takes that back.
        String sheet = "levers 5;1 locks 2 when 3 normal;3 releases 4;4 releases 3;route 0;route 2;conflict 0 1;";
        due("unprotectedConflicts", frame(sheet).unprotectedConflicts(), 1);
        leversLeft(sheet, 1);
        // The same conflict protected from the first stays so: 3 and 4 remain apart.
        leversLeft(sheet.replace("1 locks 2", "0 locks 2"), 4);
    }

    @Sentence("The frame itself does not change")
    static void promise42_theFrameDoesNotChange() {
        InterlockingFrame frame = frame("levers 4;0 locks 1;2 releases 3;route 0 3;route 1;conflict 0 1;");
        frame.moveLever(2);
        frame.moveLever(3);
        String before = contents(frame);
        due("leversAfterMerging", frame.leversAfterMerging(), 2);
        due("leversAfterMerging, asked again", frame.leversAfterMerging(), 2);
        same("contents", contents(frame), before);
        due("undo", frame.undo(), 1);
    }

    @Sentence("Returns the number of levers that remain")
    static void promise42_afterEveryChangeOfTheRules() {
        InterlockingFrame frame = frame("levers 12;0 locks 11;route 0;route 11;");
        due("leversAfterMerging", frame.leversAfterMerging(), 2);
        frame.removeRule(0);
        due("leversAfterMerging without the lock", frame.leversAfterMerging(), 1);
        frame.undo();
        due("leversAfterMerging with it again", frame.leversAfterMerging(), 2);
    }
}
