import java.nio.charset.StandardCharsets;

/** The boundaries of promises 1 to 6: a new object, the text buffer and parsing. */
public final class SheetBoundaryTest extends BoundaryTests {
    private static final int BLANKS = 0x20202020;

    public static void main(String[] args) throws IllegalAccessException {
        runSentences(SheetBoundaryTest.class);
    }

    private static void append(InterlockingFrame frame, String text) {
        Check.append(frame, text.getBytes(StandardCharsets.ISO_8859_1));
    }

    private static int appendBlanks(InterlockingFrame frame) {
        return frame.appendBytes(BLANKS, BLANKS, BLANKS, BLANKS, BLANKS);
    }

    private static InterlockingFrame fullFrame() {
        return frame("levers 12;" + "0 locks 1;".repeat(24) + "route 0;".repeat(8) + "conflict 0 1;conflict 0 2;"
                + "conflict 0 3;conflict 0 4;conflict 0 5;conflict 0 6;conflict 0 7;conflict 1 2;");
    }

    // ---- 1. A new object

    @Sentence("Creates a frame with 2 levers in the home state, without rules, routes and conflicts")
    static void promise1_aNewObjectHasNothingButTwoLevers() {
        InterlockingFrame frame = new InterlockingFrame();
        due("leverCount", frame.leverCount(), 2);
        due("currentState", frame.currentState(), 0);
        due("ruleCount", frame.ruleCount(), 0);
        due("ruleKind(0)", frame.ruleKind(0), NO_SUCH);
        due("routeCount", frame.routeCount(), 0);
        due("routeLevers(0)", frame.routeLevers(0), NO_SUCH);
        due("conflictCount", frame.conflictCount(), 0);
        due("proposedLock(0)", frame.proposedLock(0), NO_SUCH);
        due("moveLever(2)", frame.moveLever(2), NO_SUCH);
        due("moveLever(1)", frame.moveLever(1), 2);
    }

    @Sentence("The text buffer is empty")
    static void promise1_theBufferIsEmpty() {
        InterlockingFrame frame = new InterlockingFrame();
        due("bufferLength", frame.bufferLength(), 0);
        due("parseSheet(1)", frame.parseSheet(1), BAD_VALUE);
        due("appendBytes", appendBlanks(frame), 20);
    }

    // ---- 2. appendBytes

    @Sentence("Appends 20 bytes to the text buffer: the four bytes of each argument in order, the most significant byte "
            + "first")
    static void promise2_everyByteOfEveryArgumentHasItsPlace() {
        InterlockingFrame frame = new InterlockingFrame();
        for (int place = 0; place < 20; place++) {
            for (int sign : new int[] {0, '!', 128, 160, 255}) {
                int[] words = {BLANKS, BLANKS, BLANKS, BLANKS, BLANKS};
                int shift = 24 - 8 * (place % 4);
                words[place / 4] = BLANKS & ~(255 << shift) | sign << shift;
                frame.appendBytes(words[0], words[1], words[2], words[3], words[4]);
                due("parseSheet, byte " + sign + " at " + place, frame.parseSheet(20), -31);
                due("parseErrorOffset, byte " + sign + " at " + place, frame.parseErrorOffset(), place);
            }
        }
    }

    @Sentence("Returns the new length of the buffer")
    static void promise2_theLengthGrowsBy20UpTo900() {
        InterlockingFrame frame = new InterlockingFrame();
        for (int length = 20; length <= 900; length += 20) {
            due("appendBytes", frame.appendBytes(MIN, -1, 0, 1, MAX), length);
        }
    }

    @Sentence("FULL if the length would exceed 900")
    static void promise2_fullAt900() {
        InterlockingFrame frame = new InterlockingFrame();
        append(frame, "levers 3;" + " ".repeat(871));
        due("bufferLength", frame.bufferLength(), 880);
        due("appendBytes to 900", appendBlanks(frame), 900);
        due("appendBytes beyond 900", frame.appendBytes(0, 0, 0, 0, 0), FULL);
        due("appendBytes beyond 900 again", frame.appendBytes(-1, -1, -1, -1, -1), FULL);
        due("parseSheet(900), the text is as it was", frame.parseSheet(900), 1);
        due("appendBytes to the empty buffer", appendBlanks(frame), 20);
    }

    // ---- 3. parseSheet

    @Sentence("Parses the first n bytes of the text buffer as a locking sheet")
    static void promise3_onlyTheFirstNBytesAreRead() {
        String text = "levers 12;route 10;x";
        int[] due = {-31, -31, -31, -31, -31, -31, -31, -31, -32, -31, 1, -31, -31, -31, -31, -31, -31, -31, -31, 2, -31};
        for (int n = 0; n <= 20; n++) {
            InterlockingFrame frame = new InterlockingFrame();
            append(frame, text);
            due("parseSheet " + n, frame.parseSheet(n), due[n]);
        }
    }

    @Sentence("The buffer is empty afterwards, also if the sheet has an error")
    static void promise3_theBufferIsEmptyAfterwards() {
        InterlockingFrame frame = new InterlockingFrame();
        for (int n : new int[] {9, 20, 8, 0}) {
            append(frame, "levers 3;           ");
            frame.parseSheet(n);
            due("bufferLength after " + n + " of 20 bytes", frame.bufferLength(), 0);
            due("parseSheet(1)", frame.parseSheet(1), BAD_VALUE);
        }
        // What stood in the buffer before does not come back.
        append(frame, "levers 3;route 0;route 1;");
        frame.parseSheet(0);
        append(frame, "levers 3;");
        due("parseSheet(20) with zero bytes behind the sheet", frame.parseSheet(20), -31);
        due("parseErrorOffset", frame.parseErrorOffset(), 9);
    }

    @Sentence("A sheet without an error replaces all levers, rules, routes and conflicts")
    static void promise3_theSmallestSheetReplacesTheLargest() {
        InterlockingFrame frame = fullFrame();
        due("leversAfterMerging", frame.leversAfterMerging(), 2);
        due("completionSize", frame.completionSize(), NONE);
        due("parseSheet", Check.parse(frame, "levers 2;"), 1);
        same("as a new object", contents(frame), contents(new InterlockingFrame()));
        due("leversAfterMerging", frame.leversAfterMerging(), 1);
        due("completionSize", frame.completionSize(), 0);
        due("ruleKind(0)", frame.ruleKind(0), NO_SUCH);
        due("routeLevers(0)", frame.routeLevers(0), NO_SUCH);
    }

    @Sentence("the current state becomes the home state and nothing can be undone")
    static void promise3_homeAndNothingToUndo() {
        InterlockingFrame frame = frame("levers 12;");
        for (int lever = 0; lever < 12; lever++) {
            frame.moveLever(lever);
        }
        due("parseSheet", Check.parse(frame, "levers 12;"), 1);
        due("currentState", frame.currentState(), 0);
        due("undo", frame.undo(), EMPTY);
        frame.moveLever(11);
        due("undo of what came later", frame.undo(), 0);
        due("currentState", frame.currentState(), 0);
    }

    @Sentence("A sheet with an error changes nothing else")
    static void promise3_anErrorAtTheLastTokenChangesNothing() {
        InterlockingFrame frame = frame("levers 3;0 locks 1;route 0 2;route 1;conflict 1 0;");
        frame.moveLever(2);
        frame.addRule(2, 0, 2, 3);
        String before = Check.contents(frame);
        due("parseSheet", Check.parse(frame, "levers 12;11 locks 10;5 holds 6;route 9;route 8;conflict 0 1;x"), -31);
        same("contents but for the error", Check.contents(frame).replace("error 1/61", "error 0/-1"), before);
        due("unprotectedConflicts", frame.unprotectedConflicts(), 0);
        due("undo", frame.undo(), 1);
        due("undo", frame.undo(), 0);
        due("currentState", frame.currentState(), 0);
    }

    @Sentence("- `n`: number of bytes, 0 to the length of the buffer")
    static void promise3_nFrom0ToTheLength() {
        InterlockingFrame frame = new InterlockingFrame();
        due("parseSheet(0) of nothing", frame.parseSheet(0), -31);
        due("parseErrorOffset", frame.parseErrorOffset(), 0);
        append(frame, "levers 3;           ");
        due("parseSheet(20) of 20", frame.parseSheet(20), 1);
        append(frame, "levers 3;");
        due("parseSheet(0) of 20", frame.parseSheet(0), -31);
    }

    @Sentence("Returns the number of statements including the one with \"levers\"")
    static void promise3_from1To41Statements() {
        InterlockingFrame frame = new InterlockingFrame();
        due("parseSheet of the head alone", Check.parse(frame, "levers 2;"), 1);
        due("parseSheet of a rule", Check.parse(frame, "levers 2;0 locks 1;"), 2);
        due("parseSheet of a route", Check.parse(frame, "levers 2;route 0;"), 2);
        due("parseSheet of a conflict", Check.parse(frame, "levers 2;route 0;route 1;conflict 0 1;"), 4);
        due("statements of the fullest sheet",
                1 + fullFrame().ruleCount() + fullFrame().routeCount() + fullFrame().conflictCount(), 41);
    }

    @Sentence("-30 minus the error code if the sheet has an error")
    static void promise3_minus31ToMinus34() {
        InterlockingFrame frame = new InterlockingFrame();
        due("code 1", Check.parse(frame, "levers 2"), -31);
        due("code 2", Check.parse(frame, "levers 1;"), -32);
        due("code 3", Check.parse(frame, "levers 2;0 locks 0;"), -33);
        due("code 4", Check.parse(frame, "levers 2;" + "route 0;".repeat(9)), -34);
    }

    @Sentence("BAD_VALUE, and the buffer is unchanged, if n is out of range")
    static void promise3_badValueBelow0AndBeyondTheLength() {
        InterlockingFrame frame = new InterlockingFrame();
        due("parseSheet(1) of nothing", frame.parseSheet(1), BAD_VALUE);
        append(frame, "levers 3;route 0 1 2");
        for (int n : new int[] {MIN, -1, 21, 900, 901, MAX}) {
            due("parseSheet " + n, frame.parseSheet(n), BAD_VALUE);
            due("bufferLength", frame.bufferLength(), 20);
        }
        append(frame, ";                   ");
        due("parseSheet of the unchanged text", frame.parseSheet(40), 2);
        due("routeLevers", frame.routeLevers(0), 7);
    }

    // ---- 4. parseError

    @Sentence("Returns the error code of the latest call of parseSheet that did not return BAD_VALUE")
    static void promise4_badValueKeepsTheErrorCode() {
        InterlockingFrame frame = new InterlockingFrame();
        Check.parse(frame, "levers 1;");
        due("parseError", frame.parseError(), 2);
        due("parseSheet(1)", frame.parseSheet(1), BAD_VALUE);
        due("parseError after BAD_VALUE", frame.parseError(), 2);
        Check.parse(frame, "levers 2;0 locks 0;");
        due("parseError of the next error", frame.parseError(), 3);
        Check.parse(frame, "levers 2;" + "route 0;".repeat(9));
        due("parseError of the next error", frame.parseError(), 4);
        frame.parseSheet(0);
        due("parseError of the next error", frame.parseError(), 1);
    }

    @Sentence("0 if there was no error or no such call")
    static void promise4_zeroWithoutErrorOrCall() {
        InterlockingFrame frame = new InterlockingFrame();
        due("parseError of a new object", frame.parseError(), 0);
        frame.parseSheet(-1);
        due("parseError after BAD_VALUE alone", frame.parseError(), 0);
        Check.parse(frame, "levers 2;");
        due("parseError after a sheet without error", frame.parseError(), 0);
        Check.parse(frame, "levers 1;");
        Check.parse(frame, "levers 2;");
        due("parseError after an error and a sheet without", frame.parseError(), 0);
        frame.parseSheet(-1);
        due("parseError after BAD_VALUE", frame.parseError(), 0);
    }

    // ---- 5. parseErrorOffset

    @Sentence("Returns the offset of the error of the latest call of parseSheet that did not return BAD_VALUE")
    static void promise5_badValueKeepsTheOffset() {
        InterlockingFrame frame = new InterlockingFrame();
        Check.parse(frame, "levers 1;");
        due("parseErrorOffset", frame.parseErrorOffset(), 7);
        due("parseSheet(1)", frame.parseSheet(1), BAD_VALUE);
        due("parseErrorOffset after BAD_VALUE", frame.parseErrorOffset(), 7);
        Check.parse(frame, "x");
        due("parseErrorOffset of the next error", frame.parseErrorOffset(), 0);
    }

    @Sentence("Offsets start at 0 and name the first byte of the token")
    static void promise5_offsetsFrom0To900() {
        InterlockingFrame frame = new InterlockingFrame();
        Check.parse(frame, "route 0;");
        due("parseErrorOffset of the first token", frame.parseErrorOffset(), 0);
        Check.parse(frame, " route 0;");
        due("parseErrorOffset behind a blank", frame.parseErrorOffset(), 1);
        Check.parse(frame, "levers 12345;");
        due("parseErrorOffset of a long number", frame.parseErrorOffset(), 7);
        Check.parse(frame, "levers 3;conflicts 0 1;");
        due("parseErrorOffset of a long word", frame.parseErrorOffset(), 9);
        Check.parse(frame, "levers 3;" + " ".repeat(890) + "x");
        due("parseErrorOffset of the last byte", frame.parseErrorOffset(), 899);
        Check.parse(frame, "levers 3" + " ".repeat(892));
        due("parseErrorOffset of the end", frame.parseErrorOffset(), 900);
    }

    @Sentence("NONE if there was no error or no such call")
    static void promise5_noneWithoutErrorOrCall() {
        InterlockingFrame frame = new InterlockingFrame();
        due("parseErrorOffset of a new object", frame.parseErrorOffset(), NONE);
        frame.parseSheet(-1);
        due("parseErrorOffset after BAD_VALUE alone", frame.parseErrorOffset(), NONE);
        Check.parse(frame, "levers 1;");
        Check.parse(frame, "levers 2;");
        due("parseErrorOffset after an error and a sheet without", frame.parseErrorOffset(), NONE);
        frame.parseSheet(-1);
        due("parseErrorOffset after BAD_VALUE", frame.parseErrorOffset(), NONE);
    }

    // ---- 6. bufferLength

    @Sentence("Returns the length of the text buffer")
    static void promise6_from0To900() {
        InterlockingFrame frame = new InterlockingFrame();
        due("bufferLength of a new object", frame.bufferLength(), 0);
        for (int length = 20; length <= 900; length += 20) {
            appendBlanks(frame);
            due("bufferLength", frame.bufferLength(), length);
        }
        appendBlanks(frame);
        due("bufferLength after FULL", frame.bufferLength(), 900);
        frame.parseSheet(901);
        due("bufferLength after BAD_VALUE", frame.bufferLength(), 900);
        frame.parseSheet(1);
        due("bufferLength after parseSheet", frame.bufferLength(), 0);
    }
}
