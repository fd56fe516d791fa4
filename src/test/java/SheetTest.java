import java.nio.charset.StandardCharsets;

/** Promises 2 to 6: the text buffer and the parser. */
public final class SheetTest {
    public static void main(String[] args) {
        checkBuffer();
        checkByteOrder();
        checkBadLength();
        checkWhatParsingReplaces();
        checkTokens();
        checkCode1();
        checkEndOfText();
        checkCode2();
        checkCode3();
        checkCode4();
        checkLongestSheet();
        checkFirstBytesOnly();
        compareWithPlainParser();
        Check.finish();
    }

    private static void checkBuffer() {
        InterlockingFrame frame = new InterlockingFrame();
        for (int call = 1; call <= 45; call++) {
            Check.due("appendBytes " + call, frame.appendBytes(-1, 0, 1, Integer.MIN_VALUE, Integer.MAX_VALUE), 20 * call);
            Check.due("bufferLength", frame.bufferLength(), 20 * call);
        }
        Check.due("appendBytes beyond 900", frame.appendBytes(0, 0, 0, 0, 0), -4);
        Check.due("bufferLength", frame.bufferLength(), 900);
        Check.due("parseSheet(901)", frame.parseSheet(901), -3);
        Check.due("parseSheet(900)", frame.parseSheet(900), -31);
        Check.due("parseErrorOffset", frame.parseErrorOffset(), 0);
        Check.due("bufferLength", frame.bufferLength(), 0);
        Check.due("appendBytes", frame.appendBytes(0, 0, 0, 0, 0), 20);
    }

    private static void checkByteOrder() {
        InterlockingFrame frame = new InterlockingFrame();
        // "leve" "rs 3" ";0 l" "ocks" " 2; "
        Check.due("appendBytes", frame.appendBytes(0x6C657665, 0x72732033, 0x3B30206C, 0x6F636B73, 0x20323B20), 20);
        Check.due("parseSheet(20)", frame.parseSheet(20), 2);
        Check.due("leverCount", frame.leverCount(), 3);
        Check.due("ruleLevers", frame.ruleLevers(0), 2);
    }

    private static void checkBadLength() {
        InterlockingFrame frame = new InterlockingFrame();
        Check.due("parseSheet(-1)", frame.parseSheet(-1), -3);
        Check.due("parseSheet(1) of nothing", frame.parseSheet(1), -3);
        Check.due("parseSheet(MIN)", frame.parseSheet(Integer.MIN_VALUE), -3);
        Check.due("parseSheet(MAX)", frame.parseSheet(Integer.MAX_VALUE), -3);
        Check.due("parseError", frame.parseError(), 0);
        Check.due("parseErrorOffset", frame.parseErrorOffset(), -1);
        Check.due("parseSheet of x", Check.parse(frame, "x"), -31);
        int length = Check.append(frame, "levers 3;".getBytes(StandardCharsets.ISO_8859_1));
        Check.due("parseSheet(21)", frame.parseSheet(21), -3);
        Check.due("bufferLength", frame.bufferLength(), 20);
        Check.due("parseError stays", frame.parseError(), 1);
        Check.due("parseErrorOffset stays", frame.parseErrorOffset(), 0);
        Check.due("parseSheet", frame.parseSheet(length), 1);
        Check.due("parseError", frame.parseError(), 0);
        Check.due("parseErrorOffset", frame.parseErrorOffset(), -1);
        Check.due("parseSheet(0)", frame.parseSheet(0), -31);
        Check.due("parseErrorOffset", frame.parseErrorOffset(), 0);
    }

    private static void checkWhatParsingReplaces() {
        InterlockingFrame frame = Check.frame("levers 4;0 locks 1;2 holds 3;route 0;route 1;conflict 0 1;");
        frame.moveLever(2);
        frame.addRule(1, 0, 1, -1);
        Check.due("reachableCount", frame.reachableCount(), 8);
        Check.due("completionSize", frame.completionSize(), 0);
        Check.due("leversAfterMerging", frame.leversAfterMerging(), 2);
        Check.due("parseSheet", Check.parse(frame, "levers 3;2 releases 0;"), 2);
        Check.due("leverCount", frame.leverCount(), 3);
        Check.due("ruleCount", frame.ruleCount(), 1);
        Check.due("ruleKind", frame.ruleKind(0), 1);
        Check.due("ruleKind", frame.ruleKind(1), -2);
        Check.due("routeCount", frame.routeCount(), 0);
        Check.due("conflictCount", frame.conflictCount(), 0);
        Check.due("currentState", frame.currentState(), 0);
        Check.due("undo", frame.undo(), -5);
        Check.due("reachableCount", frame.reachableCount(), 6);
        Check.due("completionSize", frame.completionSize(), 0);
        Check.due("leversAfterMerging", frame.leversAfterMerging(), 1);
        Check.due("parseSheet", Check.parse(frame, "levers 4;route 0;route 1;route 0 1;0 locks 2;route 2;conflict 0 1;"), 7);
        Check.due("completionSize", frame.completionSize(), -1);
        Check.due("leversAfterMerging", frame.leversAfterMerging(), 2);
        Check.due("reachableCount", frame.reachableCount(), 12);
    }

    private static void checkTokens() {
        Check.frame("levers2;");
        Check.frame("  levers   12  ;   ");
        Check.frame("levers 0003;0locks1;1releases2when0normal;2holds0when 1reversed;route0 1 2;route1;conflict0 1;");
        Check.frame("levers 3;route 0 ; route 0;conflict 0 1 ;");
        Check.error("leversx 3;", 1, 0);
        Check.error("lever 3;", 1, 0);
        Check.error("leversz 3;", 1, 0);
        Check.error("leversa 3;", 1, 0);
        Check.error("levers{ 3;", 1, 6);
        Check.error("levers` 3;", 1, 6);
        Check.error("levers 3:;", 1, 8);
        Check.error("levers 3/;", 1, 8);
        Check.error("Levers 3;", 1, 0);
        Check.error("levers\t3;", 1, 6);
        Check.error("levers 3;\n", 1, 9);
        Check.error("levers 3; \u00ff", 1, 10);
        Check.error("levers 3;0 lockswhen 1;", 1, 11);
        Check.error("levers 3;0 locks 1when2reversedx;", 1, 23);
        Check.error("levers -3;", 1, 7);
    }

    private static void checkCode1() {
        Check.error("", 1, 0);
        Check.error("3;", 1, 0);
        Check.error("levers;", 1, 6);
        Check.error("levers levers;", 1, 7);
        Check.error("levers 3 0;", 1, 9);
        Check.error("levers 3;;", 1, 9);
        Check.error("levers 3;levers 3;", 1, 9);
        Check.error("levers 3;locks 0 1;", 1, 9);
        Check.error("levers 3;0 1;", 1, 11);
        Check.error("levers 3;0 when 1;", 1, 11);
        Check.error("levers 3;0 locks;", 1, 16);
        Check.error("levers 3;0 locks route;", 1, 17);
        Check.error("levers 3;0 locks 1 2;", 1, 19);
        Check.error("levers 3;0 locks 1 when;", 1, 23);
        Check.error("levers 3;0 locks 1 when 2;", 1, 25);
        Check.error("levers 3;0 locks 1 when 2 up;", 1, 26);
        Check.error("levers 3;0 locks 1 when 2 normal 3;", 1, 33);
        Check.error("levers 3;0 locks 1 when 2 normal when 2 normal;", 1, 33);
        Check.error("levers 3;route;", 1, 14);
        Check.error("levers 3;route 0,1;", 1, 16);
        Check.error("levers 3;route 0 when 1 normal;", 1, 17);
        Check.error("levers 3;route 0;route 1;conflict;", 1, 33);
        Check.error("levers 3;route 0;route 1;conflict 0;", 1, 35);
        Check.error("levers 3;route 0;route 1;conflict 0 1 0;", 1, 38);
    }

    private static void checkEndOfText() {
        Check.error("   ", 1, 3);
        Check.error("levers", 1, 6);
        Check.error("levers 3", 1, 8);
        Check.error("levers 3  ", 1, 10);
        Check.error("levers 3;0", 1, 10);
        Check.error("levers 3;0 locks 1", 1, 18);
        Check.error("levers 3;0 locks 1 when 2 normal ", 1, 33);
        Check.error("levers 3;route ", 1, 15);
        Check.error("levers 3;route 0 1", 1, 18);
    }

    private static void checkCode2() {
        Check.error("levers 1;", 2, 7);
        Check.error("levers 0;", 2, 7);
        Check.error("levers 13;", 2, 7);
        Check.error("levers 00003;", 2, 7);
        Check.error("levers 99999999999999999999;", 2, 7);
        Check.error("levers 4294967299;", 2, 7);
        Check.error("levers 3;3 locks 1;", 2, 9);
        Check.error("levers 3;00000 locks 1;", 2, 9);
        Check.error("levers 3;0 locks 3;", 2, 17);
        Check.error("levers 3;0 locks 10000;", 2, 17);
        Check.error("levers 3;0 locks 1 when 3 normal;", 2, 24);
        Check.error("levers 3;route 3;", 2, 15);
        Check.error("levers 3;route 0 1 2 00000;", 2, 21);
        Check.error("levers 3;conflict 0 1;", 2, 18);
        Check.error("levers 3;route 0;conflict 0 1;route 1;", 2, 28);
        Check.error("levers 3;route 0;route 1;conflict 2 0;", 2, 34);
        Check.error("levers 3;route 0;route 1;conflict 00000 1;", 2, 34);
    }

    private static void checkCode3() {
        Check.error("levers 3;1 locks 1;", 3, 17);
        Check.error("levers 3;1 locks 0001;", 3, 17);
        Check.error("levers 3;0 locks 1 when 0 normal;", 3, 24);
        Check.error("levers 3;0 locks 1 when 1 up;", 3, 24);
        Check.error("levers 3;route 0 1 0;", 3, 19);
        Check.error("levers 3;route 0;route 1;conflict 1 1;", 3, 36);
        Check.error("levers 3;route 0;route 1;conflict 1 0;conflict 1 0;", 3, 49);
        Check.error("levers 3;route 0;route 1;conflict 1 0;conflict 0 1;", 3, 49);
        Check.error("levers 12;route 0 1 2 3 4 5 6 7 8 9 10 11 11;", 3, 42);
        Check.error("levers 12;route 0 1 2 3 4 5 6 7 8 9 10 11 12;", 2, 42);
    }

    private static void checkCode4() {
        String rules = "levers 3;" + "0 locks 1;".repeat(24);
        Check.frame(rules + "route 0;");
        Check.error(rules + "1 locks 2;", 4, rules.length());
        Check.error(rules + " 1 nonsense", 4, rules.length() + 1);
        Check.error(rules + "1", 4, rules.length());
        Check.error(rules + "3 locks 1;", 2, rules.length());
        Check.error(rules + "00001 locks 2;", 2, rules.length());
        Check.error(rules + "locks", 1, rules.length());
        String routes = "levers 5;" + "route 0;".repeat(8);
        Check.frame(routes + "0 locks 1;conflict 0 7;");
        Check.error(routes + "route 0;", 4, routes.length());
        Check.error(routes + "route;", 4, routes.length());
        String conflicts = routes + "conflict 0 1;conflict 0 2;conflict 0 3;conflict 0 4;conflict 0 5;conflict 0 6;"
                + "conflict 7 0;conflict 1 2;";
        InterlockingFrame frame = Check.frame(conflicts);
        Check.due("conflictCount", frame.conflictCount(), 8);
        Check.due("routeCount", frame.routeCount(), 8);
        Check.error(conflicts + "conflict 3 4;", 4, conflicts.length());
        Check.error(conflicts + "conflict 9 9;", 4, conflicts.length());
        Check.error(conflicts + "route 0;", 4, conflicts.length());
    }

    private static void checkLongestSheet() {
        String sheet = "levers 12;" + "0 releases 1 when 2 normal;".repeat(24) + "route 0 1 2 3 4 5 6 7 8 9 10 11;".repeat(6);
        sheet += " ".repeat(900 - sheet.length());
        InterlockingFrame frame = new InterlockingFrame();
        Check.due("parseSheet of 900 bytes", Check.parse(frame, sheet), 31);
        Check.due("routeLevers", frame.routeLevers(5), 4095);
    }

    /** What stands in the buffer behind the first n bytes is no part of the text. */
    private static void checkFirstBytesOnly() {
        String whole = "levers 12;10 locks 11 when 9 normal;route 1 2 3;route 10 11;conflict 0 1;route 0;2 holds 3;";
        for (int n = 0; n <= whole.length(); n++) {
            InterlockingFrame frame = new InterlockingFrame();
            Check.append(frame, whole.getBytes(StandardCharsets.ISO_8859_1));
            PlainParser plain = new PlainParser(whole.substring(0, n));
            String name = " of the first " + n + " bytes";
            Check.due("parseSheet" + name, frame.parseSheet(n), plain.code == 0 ? plain.statements : -30 - plain.code);
            Check.due("parseError" + name, frame.parseError(), plain.code);
            Check.due("parseErrorOffset" + name, frame.parseErrorOffset(), plain.offset);
            Check.due("bufferLength" + name, frame.bufferLength(), 0);
        }
    }

    private static final String[] PIECES = {"levers", "locks", "releases", "holds", "when", "normal", "reversed", "route",
        "conflict", ";", ";", ";", " ", " ", "0", "1", "2", "3", "4", "7", "12", "13", "00001", "x", ",", "\u0080", "A"};

    private static final String[] STATEMENTS = {"0 locks 1;", "1 releases 2;", "2 holds 0 when 1 normal;", "route 0;",
        "route 1 2;", "route 2 0 1;", "conflict 0 1;", "conflict 2 1;", "conflict 0 3;", "3 locks 4 when 0 reversed;",
        "conflict 3 4;", "conflict 5 0;", "conflict 1 7;", "conflict 6 2;"};

    private static void compareWithPlainParser() {
        Numbers numbers = new Numbers(77);
        for (int round = 0; round < 20000; round++) {
            StringBuilder text = new StringBuilder("levers " + (2 + numbers.below(11)) + ";");
            int crowd = numbers.below(3) * numbers.below(25);
            for (int statement = numbers.below(8) + crowd; statement > 0; statement--) {
                text.append(STATEMENTS[numbers.below(STATEMENTS.length)]);
            }
            for (int change = numbers.below(4); change > 0; change--) {
                int at = numbers.below(text.length() + 1);
                if (numbers.below(3) == 0) {
                    text.delete(at, Math.min(text.length(), at + 1 + numbers.below(6)));
                } else {
                    text.insert(at, PIECES[numbers.below(PIECES.length)]);
                }
            }
            if (text.length() <= 900) {
                compare(text.toString());
            }
        }
    }

    private static void compare(String text) {
        InterlockingFrame frame = new InterlockingFrame();
        PlainParser plain = new PlainParser(text);
        int due = plain.code == 0 ? plain.statements : -30 - plain.code;
        Check.due("parseSheet of " + text, Check.parse(frame, text), due);
        Check.due("parseError of " + text, frame.parseError(), plain.code);
        Check.due("parseErrorOffset of " + text, frame.parseErrorOffset(), plain.offset);
    }
}
