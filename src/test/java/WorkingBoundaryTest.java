/** The boundaries of promises 15 to 19: working the frame. */
public final class WorkingBoundaryTest extends BoundaryTests {
    public static void main(String[] args) throws IllegalAccessException {
        runSentences(WorkingBoundaryTest.class);
    }

    // ---- 15. currentState

    @Sentence("Returns the current state")
    static void promise15_fromHomeToAllReversed() {
        InterlockingFrame frame = frame("levers 12;");
        due("currentState at home", frame.currentState(), 0);
        for (int lever = 0; lever < 12; lever++) {
            frame.moveLever(lever);
            due("currentState", frame.currentState(), (2 << lever) - 1);
        }
    }

    // ---- 16. moveLever

    @Sentence("Returns the new current state")
    static void promise16_theLowestAndTheHighestLever() {
        InterlockingFrame frame = frame("levers 12;");
        due("moveLever(11)", frame.moveLever(11), 2048);
        due("moveLever(0)", frame.moveLever(0), 2049);
        due("moveLever(11) back", frame.moveLever(11), 1);
        due("moveLever(0) back to home", frame.moveLever(0), 0);
    }

    @Sentence("NO_SUCH if the lever does not exist")
    static void promise16_noSuchLever() {
        noSuchBeyond("moveLever of 2 levers", new InterlockingFrame()::moveLever, 2);
        noSuchBeyond("moveLever of 12 levers", frame("levers 12;")::moveLever, 12);
    }

    @Sentence("BLOCKED if the move is not allowed in the current state")
    static void promise16_blockedByEachKindOfRule() {
        InterlockingFrame frame = frame("levers 5;0 locks 1;2 releases 3;0 holds 4;");
        due("moveLever(3), not released", frame.moveLever(3), BLOCKED);
        due("moveLever(0)", frame.moveLever(0), 1);
        due("moveLever(1), locked", frame.moveLever(1), BLOCKED);
        due("moveLever(4), held", frame.moveLever(4), BLOCKED);
        due("moveLever(2)", frame.moveLever(2), 5);
        due("moveLever(3), released", frame.moveLever(3), 13);
        due("moveLever(2) back, needed by 3", frame.moveLever(2), BLOCKED);
        due("currentState", frame.currentState(), 13);
        due("moveLever(0) back", frame.moveLever(0), 12);
        due("moveLever(1), no longer locked", frame.moveLever(1), 14);
    }

    @Sentence("BLOCKED if the move is not allowed in the current state")
    static void promise16_blockedByTheLastOf24Rules() {
        InterlockingFrame frame = frame("levers 3;" + "0 locks 1;".repeat(23) + "0 holds 2;");
        due("moveLever(0)", frame.moveLever(0), 1);
        due("moveLever(2)", frame.moveLever(2), BLOCKED);
    }

    // ---- 17. addRule

    @Sentence("Its number is the previous number of rules")
    static void promise17_theFirstTheLastAndOneAfterARemoval() {
        InterlockingFrame frame = frame("levers 12;");
        frame.addRule(2, 11, 10, NONE);
        due("ruleLevers(0) of the first rule", frame.ruleLevers(0), 1110);
        for (int rule = 1; rule < 23; rule++) {
            frame.addRule(0, 0, 1, NONE);
        }
        frame.addRule(1, 2, 3, NONE);
        due("ruleLevers(23) of the 24th rule", frame.ruleLevers(23), 203);
        frame.removeRule(0);
        frame.addRule(1, 4, 5, NONE);
        due("ruleLevers(23) after a removal", frame.ruleLevers(23), 405);
        due("ruleLevers(22)", frame.ruleLevers(22), 203);
    }

    @Sentence("- `kind`: 0, 1 or 2")
    static void promise17_eachKindIsTaken() {
        InterlockingFrame frame = new InterlockingFrame();
        for (int kind = 0; kind <= 2; kind++) {
            due("addRule of kind " + kind, frame.addRule(kind, 0, 1, NONE), kind + 1);
            due("ruleKind " + kind, frame.ruleKind(kind), kind);
        }
    }

    @Sentence("- `condition`: NONE for no condition, otherwise twice the condition lever, plus 1 if the condition is "
            + "\"reversed\"")
    static void promise17_everyConditionFromNoneTo23() {
        for (int condition = -1; condition <= 23; condition++) {
            int lever = Math.max(0, condition / 2);
            InterlockingFrame frame = frame("levers 12;");
            due("addRule", frame.addRule(0, (lever + 1) % 12, (lever + 2) % 12, condition), 1);
            due("ruleCondition", frame.ruleCondition(0), condition);
            int both = 1 << (lever + 1) % 12 | 1 << (lever + 2) % 12;
            boolean activeInNormal = condition == -1 || condition % 2 == 0;
            boolean activeInReversed = condition == -1 || condition % 2 == 1;
            due("isLegal, condition " + condition + ", lever normal", frame.isLegal(both), activeInNormal ? 0 : 1);
            due("isLegal, condition " + condition + ", lever reversed", frame.isLegal(both | 1 << lever),
                    activeInReversed ? 0 : 1);
        }
    }

    @Sentence("Returns the new number of rules")
    static void promise17_from1To24() {
        InterlockingFrame frame = new InterlockingFrame();
        for (int rules = 1; rules <= 24; rules++) {
            due("addRule", frame.addRule(rules % 3, 0, 1, NONE), rules);
        }
    }

    @Sentence("NO_SUCH if one of the levers does not exist (the condition lever too)")
    static void promise17_noSuchLeverAOrB() {
        for (int levers : new int[] {3, 12}) {
            String sheet = "levers " + levers + ";";
            noSuchBeyond("addRule, lever A", lever -> frame(sheet).addRule(0, lever, 1, NONE), levers);
            noSuchBeyond("addRule, lever B", lever -> frame(sheet).addRule(0, 1, lever, NONE), levers);
        }
    }

    @Sentence("NO_SUCH if one of the levers does not exist (the condition lever too)")
    static void promise17_noSuchConditionLever() {
        for (int levers = 3; levers <= 12; levers++) {
            InterlockingFrame frame = frame("levers " + levers + ";");
            due("addRule, the highest lever normal", frame.addRule(0, 0, 1, 2 * levers - 2), 1);
            due("addRule, the highest lever reversed", frame.addRule(0, 0, 1, 2 * levers - 1), 2);
            due("addRule, the next lever normal", frame.addRule(0, 0, 1, 2 * levers), NO_SUCH);
            due("addRule, the next lever reversed", frame.addRule(0, 0, 1, 2 * levers + 1), NO_SUCH);
            due("addRule, far beyond", frame.addRule(0, 0, 1, 256), NO_SUCH);
            due("addRule, MAX", frame.addRule(0, 0, 1, MAX), NO_SUCH);
            due("ruleCount", frame.ruleCount(), 2);
        }
    }

    @Sentence("BAD_VALUE if the kind is out of range, the condition is below NONE, or two of the levers are equal")
    static void promise17_badKind() {
        badValueBeyond("addRule, kind", kind -> new InterlockingFrame().addRule(kind, 0, 1, NONE), 3);
    }

    @Sentence("BAD_VALUE if the kind is out of range, the condition is below NONE, or two of the levers are equal")
    static void promise17_conditionBelowNone() {
        InterlockingFrame frame = frame("levers 3;");
        for (int condition : new int[] {-2, -3, -6, -24, -256, MIN + 1, MIN}) {
            due("addRule, condition " + condition, frame.addRule(0, 0, 1, condition), BAD_VALUE);
        }
        due("addRule, condition NONE", frame.addRule(0, 0, 1, -1), 1);
    }

    @Sentence("BAD_VALUE if the kind is out of range, the condition is below NONE, or two of the levers are equal")
    static void promise17_anyTwoLeversEqual() {
        InterlockingFrame frame = frame("levers 12;");
        for (int lever = 0; lever < 12; lever++) {
            int other = (lever + 1) % 12;
            due("addRule, A is B", frame.addRule(0, lever, lever, NONE), BAD_VALUE);
            due("addRule, C is A, normal", frame.addRule(0, lever, other, 2 * lever), BAD_VALUE);
            due("addRule, C is A, reversed", frame.addRule(1, lever, other, 2 * lever + 1), BAD_VALUE);
            due("addRule, C is B, normal", frame.addRule(2, other, lever, 2 * lever), BAD_VALUE);
            due("addRule, C is B, reversed", frame.addRule(0, other, lever, 2 * lever + 1), BAD_VALUE);
            due("addRule, all equal", frame.addRule(0, lever, lever, 2 * lever), BAD_VALUE);
        }
        due("ruleCount", frame.ruleCount(), 0);
    }

    @Sentence("FULL if there are already 24 rules")
    static void promise17_fullAt24AndNotBefore() {
        InterlockingFrame frame = frame("levers 3;" + "0 locks 1;".repeat(23));
        due("addRule, the 24th", frame.addRule(0, 1, 2, NONE), 24);
        due("addRule, the 25th", frame.addRule(0, 0, 2, NONE), FULL);
        due("ruleLevers(23)", frame.ruleLevers(23), 102);
        frame.removeRule(0);
        due("addRule after a removal", frame.addRule(0, 0, 2, NONE), 24);
        due("addRule when full again", frame.addRule(0, 0, 2, NONE), FULL);
        frame.undo();
        due("addRule after an undo", frame.addRule(2, 0, 2, NONE), 24);
    }

    @Sentence("BLOCKED if the rule would make the current state illegal")
    static void promise17_blockedOnlyByTheCurrentState() {
        InterlockingFrame frame = frame("levers 3;");
        frame.moveLever(0);
        frame.moveLever(1);
        due("addRule, lock of 0 and 1", frame.addRule(0, 0, 1, NONE), BLOCKED);
        due("addRule, lock of 1 and 0", frame.addRule(0, 1, 0, 4), BLOCKED);
        due("addRule, 2 releases 0", frame.addRule(1, 2, 0, NONE), BLOCKED);
        due("ruleCount", frame.ruleCount(), 0);
        due("addRule, lock that is not active", frame.addRule(0, 0, 1, 5), 1);
        due("addRule, release that is not active", frame.addRule(1, 2, 1, 0), 2);
        due("addRule, 0 releases 2", frame.addRule(1, 0, 2, NONE), 3);
        due("addRule, hold of a reversed lever", frame.addRule(2, 0, 1, NONE), 4);
    }

    // ---- 18. removeRule

    @Sentence("Returns the new number of rules")
    static void promise18_from23To0() {
        InterlockingFrame frame = frame("levers 2;" + "0 locks 1;".repeat(24));
        for (int rules = 23; rules >= 0; rules--) {
            due("removeRule", frame.removeRule(rules), rules);
        }
    }

    @Sentence("NO_SUCH if the rule does not exist")
    static void promise18_noSuchRule() {
        noSuchBeyond("removeRule without rules", new InterlockingFrame()::removeRule, 0);
        String one = "levers 2;0 locks 1;";
        noSuchBeyond("removeRule of 1 rule", rule -> frame(one).removeRule(rule), 1);
        String most = "levers 2;" + "0 locks 1;".repeat(24);
        noSuchBeyond("removeRule of 24 rules", rule -> frame(most).removeRule(rule), 24);
    }

    // ---- 19. undo

    @Sentence("Undoes the latest successful call of moveLever, addRule or removeRule that has not been undone")
    static void promise19_eachOfTheThreeCallsTheLatestFirst() {
        InterlockingFrame frame = frame("levers 12;0 locks 1;11 holds 10 when 9 reversed;2 releases 3;");
        String[] stories = new String[4];
        stories[0] = contents(frame);
        frame.moveLever(11);
        stories[1] = contents(frame);
        frame.removeRule(1);
        stories[2] = contents(frame);
        frame.addRule(1, 11, 0, NONE);
        due("moveLever(11) back", frame.moveLever(11), 0);
        due("undo of moveLever", frame.undo(), 3);
        due("currentState", frame.currentState(), 2048);
        for (int left = 2; left >= 0; left--) {
            due("undo", frame.undo(), left);
            same("contents, " + left + " left", contents(frame), stories[left]);
        }
    }

    @Sentence("Undoes the latest successful call of moveLever, addRule or removeRule that has not been undone")
    static void promise19_refusedCallsAreNotCounted() {
        InterlockingFrame frame = frame("levers 2;0 locks 1;");
        frame.moveLever(0);
        due("moveLever", frame.moveLever(1), BLOCKED);
        due("moveLever", frame.moveLever(2), NO_SUCH);
        due("addRule", frame.addRule(1, 1, 0, NONE), BLOCKED);
        due("addRule", frame.addRule(0, 0, 2, NONE), NO_SUCH);
        due("addRule", frame.addRule(0, 0, 0, NONE), BAD_VALUE);
        due("removeRule", frame.removeRule(1), NO_SUCH);
        due("undo", frame.undo(), 0);
        due("currentState", frame.currentState(), 0);
        due("undo", frame.undo(), EMPTY);
    }

    @Sentence("Undoes the latest successful call of moveLever, addRule or removeRule that has not been undone")
    static void promise19_anUndoIsNotUndone() {
        InterlockingFrame frame = new InterlockingFrame();
        frame.moveLever(0);
        frame.moveLever(1);
        due("undo", frame.undo(), 1);
        due("moveLever(1)", frame.moveLever(1), 3);
        due("undo", frame.undo(), 1);
        due("currentState", frame.currentState(), 1);
        due("undo", frame.undo(), 0);
        due("currentState", frame.currentState(), 0);
    }

    @Sentence("Undoes the latest successful call of moveLever, addRule or removeRule that has not been undone")
    static void promise19_aRemovedRuleComesBackToItsPlaceAmong24() {
        for (int gone : new int[] {0, 12, 23}) {
            InterlockingFrame frame = frame("levers 12;");
            for (int rule = 0; rule < 24; rule++) {
                frame.addRule(rule % 3, rule % 11, 11, rule % 11 == 10 ? NONE : 20);
            }
            String before = Check.contents(frame);
            frame.removeRule(gone);
            frame.undo();
            same("contents, rule " + gone + " is back", Check.contents(frame), before);
        }
    }

    @Sentence("At most 12 calls are remembered")
    static void promise19_the12thCallBackCanBeUndone() {
        InterlockingFrame frame = frame("levers 12;");
        for (int lever = 0; lever < 12; lever++) {
            frame.moveLever(lever);
        }
        for (int lever = 11; lever >= 0; lever--) {
            due("undo", frame.undo(), lever);
            due("currentState", frame.currentState(), (1 << lever) - 1);
        }
        due("undo", frame.undo(), EMPTY);
    }

    @Sentence("older ones are forgotten")
    static void promise19_the13thCallBackIsForgotten() {
        InterlockingFrame frame = frame("levers 12;");
        frame.addRule(2, 0, 1, NONE);
        for (int lever = 11; lever >= 0; lever--) {
            frame.moveLever(lever);
        }
        for (int left = 11; left >= 0; left--) {
            due("undo", frame.undo(), left);
        }
        due("undo of a forgotten call", frame.undo(), EMPTY);
        due("ruleCount", frame.ruleCount(), 1);
        due("currentState", frame.currentState(), 0);
    }

    @Sentence("older ones are forgotten")
    static void promise19_whatIsStillRememberedIsWhole() {
        InterlockingFrame frame = frame("levers 12;0 locks 1;2 holds 3 when 4 normal;5 releases 6;");
        frame.moveLever(0);
        String before = contents(frame);
        frame.removeRule(1);
        frame.addRule(0, 7, 8, 19);
        for (int call = 1; call <= 10; call++) {
            frame.moveLever(11);
        }
        for (int left = 11; left >= 0; left--) {
            due("undo", frame.undo(), left);
        }
        same("contents after all but the forgotten call are undone", contents(frame), before);
        due("undo of the forgotten call", frame.undo(), EMPTY);
    }

    @Sentence("older ones are forgotten")
    static void promise19_manyCallsAreForgotten() {
        InterlockingFrame frame = new InterlockingFrame();
        for (int call = 1; call <= 101; call++) {
            frame.moveLever(0);
        }
        for (int left = 11; left >= 0; left--) {
            due("undo", frame.undo(), left);
            due("currentState", frame.currentState(), left % 2 == 1 ? 0 : 1);
        }
        due("undo", frame.undo(), EMPTY);
    }

    @Sentence("Returns the number of calls that can still be undone")
    static void promise19_from11To0() {
        InterlockingFrame frame = new InterlockingFrame();
        frame.moveLever(0);
        due("undo of one call", frame.undo(), 0);
        for (int call = 1; call <= 12; call++) {
            frame.moveLever(0);
        }
        due("undo of 12 calls", frame.undo(), 11);
        frame.moveLever(0);
        frame.moveLever(0);
        due("undo of 13 calls, one of them forgotten", frame.undo(), 11);
    }

    @Sentence("EMPTY if there is none")
    static void promise19_emptyAtFirstAndAfterAllAndAfterASheet() {
        InterlockingFrame frame = new InterlockingFrame();
        due("undo at first", frame.undo(), EMPTY);
        frame.moveLever(0);
        due("undo", frame.undo(), 0);
        due("undo after all", frame.undo(), EMPTY);
        due("undo once more", frame.undo(), EMPTY);
        frame.moveLever(0);
        Check.parse(frame, "levers 2;");
        due("undo after a sheet", frame.undo(), EMPTY);
        due("currentState", frame.currentState(), 0);
    }
}
