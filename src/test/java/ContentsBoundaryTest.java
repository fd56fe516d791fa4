/** The boundaries of promises 7 to 14: the contents of the sheet. */
public final class ContentsBoundaryTest extends BoundaryTests {
    private static final String EIGHT_ROUTES = "levers 12;" + "route 0;".repeat(8);

    public static void main(String[] args) throws IllegalAccessException {
        runSentences(ContentsBoundaryTest.class);
    }

    private static InterlockingFrame rules24() {
        return frame("levers 12;" + "0 locks 1;".repeat(23) + "11 holds 10 when 9 reversed;");
    }

    // ---- 7. leverCount

    @Sentence("Returns 2 to 12")
    static void promise7_from2To12() {
        due("leverCount of a new object", new InterlockingFrame().leverCount(), 2);
        InterlockingFrame frame = frame("levers 12;");
        due("leverCount", frame.leverCount(), 12);
        Check.parse(frame, "levers 13;");
        due("leverCount after 13 were refused", frame.leverCount(), 12);
        Check.parse(frame, "levers 2;");
        due("leverCount", frame.leverCount(), 2);
        Check.parse(frame, "levers 1;");
        due("leverCount after 1 was refused", frame.leverCount(), 2);
    }

    // ---- 8. ruleCount

    @Sentence("Returns 0 to 24")
    static void promise8_from0To24() {
        InterlockingFrame frame = new InterlockingFrame();
        due("ruleCount", frame.ruleCount(), 0);
        for (int rules = 1; rules <= 24; rules++) {
            frame.addRule(2, 0, 1, NONE);
            due("ruleCount", frame.ruleCount(), rules);
        }
        frame.addRule(2, 0, 1, NONE);
        due("ruleCount after FULL", frame.ruleCount(), 24);
        for (int rules = 23; rules >= 0; rules--) {
            frame.removeRule(0);
            due("ruleCount", frame.ruleCount(), rules);
        }
        frame.removeRule(0);
        due("ruleCount after NO_SUCH", frame.ruleCount(), 0);
    }

    // ---- 9. ruleKind

    @Sentence("Returns 0, 1 or 2")
    static void promise9_theThreeKinds() {
        InterlockingFrame frame = frame("levers 2;0 locks 1;0 releases 1;0 holds 1;");
        for (int kind = 0; kind <= 2; kind++) {
            due("ruleKind " + kind, frame.ruleKind(kind), kind);
        }
        due("ruleKind of the 24th rule", rules24().ruleKind(23), 2);
    }

    @Sentence("NO_SUCH if the rule does not exist")
    static void promise9_noSuchRule() {
        noSuchBeyond("ruleKind without rules", new InterlockingFrame()::ruleKind, 0);
        noSuchBeyond("ruleKind of 24 rules", rules24()::ruleKind, 24);
        InterlockingFrame frame = frame("levers 2;0 locks 1;0 holds 1;");
        frame.removeRule(0);
        noSuchBeyond("ruleKind after a removal", frame::ruleKind, 1);
    }

    // ---- 10. ruleLevers

    @Sentence("Returns 100 times lever A plus lever B")
    static void promise10_lowestAndHighestLevers() {
        InterlockingFrame frame = frame("levers 12;0 locks 1;1 locks 0;0 locks 11;11 locks 0;11 locks 10;10 locks 11;");
        int[] due = {1, 100, 11, 1100, 1110, 1011};
        for (int rule = 0; rule < due.length; rule++) {
            due("ruleLevers " + rule, frame.ruleLevers(rule), due[rule]);
        }
    }

    @Sentence("NO_SUCH if the rule does not exist")
    static void promise10_noSuchRule() {
        noSuchBeyond("ruleLevers without rules", new InterlockingFrame()::ruleLevers, 0);
        noSuchBeyond("ruleLevers of 24 rules", rules24()::ruleLevers, 24);
    }

    // ---- 11. ruleCondition

    @Sentence("Returns twice the condition lever, plus 1 if the condition is \"reversed\"")
    static void promise11_lowestAndHighestConditionLever() {
        InterlockingFrame frame = frame("levers 12;1 locks 2 when 0 normal;1 holds 2 when 0 reversed;"
                + "1 releases 2 when 11 normal;1 locks 2 when 11 reversed;");
        int[] due = {0, 1, 22, 23};
        for (int rule = 0; rule < due.length; rule++) {
            due("ruleCondition " + rule, frame.ruleCondition(rule), due[rule]);
        }
    }

    @Sentence("NONE if the rule has no condition")
    static void promise11_noneWithoutCondition() {
        InterlockingFrame frame = frame("levers 2;0 locks 1;0 releases 1;");
        frame.addRule(2, 0, 1, NONE);
        for (int rule = 0; rule < 3; rule++) {
            due("ruleCondition " + rule, frame.ruleCondition(rule), NONE);
        }
    }

    @Sentence("NO_SUCH if the rule does not exist")
    static void promise11_noSuchRule() {
        noSuchBeyond("ruleCondition without rules", new InterlockingFrame()::ruleCondition, 0);
        noSuchBeyond("ruleCondition of 24 rules", rules24()::ruleCondition, 24);
    }

    // ---- 12. routeCount

    @Sentence("Returns 0 to 8")
    static void promise12_from0To8() {
        due("routeCount of a new object", new InterlockingFrame().routeCount(), 0);
        for (int routes = 0; routes <= 8; routes++) {
            due("routeCount", frame("levers 2;" + "route 0;".repeat(routes)).routeCount(), routes);
        }
        InterlockingFrame frame = frame(EIGHT_ROUTES);
        Check.parse(frame, EIGHT_ROUTES + "route 0;");
        due("routeCount after 9 were refused", frame.routeCount(), 8);
    }

    // ---- 13. routeLevers

    @Sentence("Returns the levers as a bit set")
    static void promise13_lowestHighestAndAllLevers() {
        InterlockingFrame frame = frame("levers 12;route 0;route 11;route 11 0;route 11 10 9 8 7 6 5 4 3 2 1 0;");
        int[] due = {1, 2048, 2049, 4095};
        for (int route = 0; route < due.length; route++) {
            due("routeLevers " + route, frame.routeLevers(route), due[route]);
        }
    }

    @Sentence("NO_SUCH if the route does not exist")
    static void promise13_noSuchRoute() {
        noSuchBeyond("routeLevers without routes", new InterlockingFrame()::routeLevers, 0);
        noSuchBeyond("routeLevers of 1 route", frame("levers 2;route 1;")::routeLevers, 1);
        noSuchBeyond("routeLevers of 8 routes", frame(EIGHT_ROUTES)::routeLevers, 8);
    }

    // ---- 14. conflictCount

    @Sentence("Returns 0 to 8")
    static void promise14_from0To8() {
        due("conflictCount of a new object", new InterlockingFrame().conflictCount(), 0);
        StringBuilder sheet = new StringBuilder(EIGHT_ROUTES);
        due("conflictCount without conflicts", frame(sheet.toString()).conflictCount(), 0);
        for (int conflicts = 1; conflicts <= 8; conflicts++) {
            sheet.append(conflicts < 8 ? "conflict 0 " + conflicts + ";" : "conflict 7 6;");
            due("conflictCount", frame(sheet.toString()).conflictCount(), conflicts);
        }
        InterlockingFrame frame = frame(sheet.toString());
        Check.parse(frame, sheet + "conflict 1 2;");
        due("conflictCount after 9 were refused", frame.conflictCount(), 8);
    }
}
