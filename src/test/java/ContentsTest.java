/** Promises 7 to 14: the contents of the sheet. */
public final class ContentsTest {
    private static final int[] NO_NUMBERS = {Integer.MIN_VALUE, -2, -1, 100, Integer.MAX_VALUE};

    public static void main(String[] args) {
        InterlockingFrame frame = Check.frame("levers 12;11 locks 10;0 releases 11 when 1 normal;"
                + "10 holds 2 when 11 reversed;3 locks 4 when 0 normal;route 11;route 0 5 11;route 3 2 1 0;"
                + "conflict 2 0;conflict 0 1;");
        Check.due("leverCount", frame.leverCount(), 12);
        Check.due("ruleCount", frame.ruleCount(), 4);
        Check.due("ruleKind(0)", frame.ruleKind(0), 0);
        Check.due("ruleKind(1)", frame.ruleKind(1), 1);
        Check.due("ruleKind(2)", frame.ruleKind(2), 2);
        Check.due("ruleKind(4)", frame.ruleKind(4), -2);
        Check.due("ruleLevers(0)", frame.ruleLevers(0), 1110);
        Check.due("ruleLevers(1)", frame.ruleLevers(1), 11);
        Check.due("ruleLevers(2)", frame.ruleLevers(2), 1002);
        Check.due("ruleLevers(4)", frame.ruleLevers(4), -2);
        Check.due("ruleCondition(0)", frame.ruleCondition(0), -1);
        Check.due("ruleCondition(1)", frame.ruleCondition(1), 2);
        Check.due("ruleCondition(2)", frame.ruleCondition(2), 23);
        Check.due("ruleCondition(3)", frame.ruleCondition(3), 0);
        Check.due("ruleCondition(4)", frame.ruleCondition(4), -2);
        Check.due("routeCount", frame.routeCount(), 3);
        Check.due("routeLevers(0)", frame.routeLevers(0), 2048);
        Check.due("routeLevers(1)", frame.routeLevers(1), 2081);
        Check.due("routeLevers(2)", frame.routeLevers(2), 15);
        Check.due("routeLevers(3)", frame.routeLevers(3), -2);
        Check.due("conflictCount", frame.conflictCount(), 2);
        for (int none : NO_NUMBERS) {
            Check.due("ruleKind " + none, frame.ruleKind(none), -2);
            Check.due("ruleLevers " + none, frame.ruleLevers(none), -2);
            Check.due("ruleCondition " + none, frame.ruleCondition(none), -2);
            Check.due("routeLevers " + none, frame.routeLevers(none), -2);
        }
        checkNumbersAfterRemoval(frame);
        Check.finish();
    }

    private static void checkNumbersAfterRemoval(InterlockingFrame frame) {
        Check.due("removeRule(1)", frame.removeRule(1), 3);
        Check.due("ruleLevers(0)", frame.ruleLevers(0), 1110);
        Check.due("ruleLevers(1)", frame.ruleLevers(1), 1002);
        Check.due("ruleCondition(1)", frame.ruleCondition(1), 23);
        Check.due("ruleLevers(2)", frame.ruleLevers(2), 304);
        Check.due("ruleLevers(3)", frame.ruleLevers(3), -2);
        Check.due("addRule", frame.addRule(1, 7, 8, 19), 4);
        Check.due("ruleKind(3)", frame.ruleKind(3), 1);
        Check.due("ruleLevers(3)", frame.ruleLevers(3), 708);
        Check.due("ruleCondition(3)", frame.ruleCondition(3), 19);
    }
}
