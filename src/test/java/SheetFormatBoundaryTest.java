import java.nio.charset.StandardCharsets;

/** The boundaries that section 7 of the description names: the text of a sheet and its errors. */
public final class SheetFormatBoundaryTest extends BoundaryTests {
    private static final String RULES_24 = "levers 3;" + "0 locks 1;".repeat(24);
    private static final String ROUTES_8 = "levers 3;" + "route 0;".repeat(8);
    private static final String CONFLICTS_8 = ROUTES_8 + "conflict 0 1;conflict 0 2;conflict 0 3;conflict 0 4;"
            + "conflict 0 5;conflict 0 6;conflict 0 7;conflict 1 2;";

    public static void main(String[] args) throws IllegalAccessException {
        runSentences(SheetFormatBoundaryTest.class);
    }

    /** The text behind a sheet's head for 3 levers is in error, so many bytes behind its own begin. */
    private static void errorIn(String statements, int code, int offset) {
        String head = "levers 3;";
        Check.error(head + statements, code, head.length() + offset);
    }

    private static int parsed(String sheet, int n) {
        InterlockingFrame frame = new InterlockingFrame();
        Check.append(frame, sheet.getBytes(StandardCharsets.ISO_8859_1));
        return frame.parseSheet(n);
    }

    // ---- the grammar

    @Sentence("A sheet is a text of at most 900 bytes")
    static void section7_theLastOf900BytesCounts() {
        String sheet = "levers 12;" + " ".repeat(882) + "route 0;";
        due("length", sheet.length(), 900);
        due("parseSheet(900)", parsed(sheet, 900), 2);
        due("parseSheet(899)", parsed(sheet, 899), -31);
        due("parseSheet(901)", parsed(sheet, 901), BAD_VALUE);
    }

    @Sentence("sheet: \"levers\" number \";\" { statement \";\" }")
    static void section7_aSheetOfNoAndOfMostStatements() {
        due("no statement", parsed("levers 2;", 9), 1);
        String most = CONFLICTS_8 + "0 locks 1;".repeat(24);
        due("8 routes, 8 conflicts and 24 rules", parsed(most, most.length()), 41);
        Check.error("", 1, 0);
        Check.error(";", 1, 0);
        Check.error("route 0;levers 3;", 1, 0);
        Check.error("levers 3", 1, 8);
        errorIn(";", 1, 0);
        errorIn("route 0;;", 1, 8);
        errorIn("route 0", 1, 7);
        errorIn("levers 3;", 1, 0);
    }

    @Sentence("statement: number verb number [ \"when\" number position ] | \"route\" number { number } | "
            + "\"conflict\" number number")
    static void section7_aRuleHasNoOrOneCondition() {
        InterlockingFrame frame = frame("levers 3;0 locks 1;0 locks 1 when 2 normal;");
        due("ruleCondition(0)", frame.ruleCondition(0), NONE);
        due("ruleCondition(1)", frame.ruleCondition(1), 4);
        errorIn("0 locks 1 when 2 normal when 2 normal;", 1, 24);
        errorIn("0 locks 1 when;", 1, 14);
        errorIn("0 locks 1 when 2;", 1, 16);
        errorIn("0 locks 1 2;", 1, 10);
        errorIn("0 1;", 1, 2);
        errorIn("0;", 1, 1);
        errorIn("0 locks;", 1, 7);
    }

    @Sentence("statement: number verb number [ \"when\" number position ] | \"route\" number { number } | "
            + "\"conflict\" number number")
    static void section7_aRouteHasOneNumberOrMore() {
        due("routeLevers of one", frame("levers 3;route 2;").routeLevers(0), 4);
        due("routeLevers of three", frame("levers 3;route 2 0 1;").routeLevers(0), 7);
        errorIn("route;", 1, 5);
        errorIn("route when;", 1, 6);
        errorIn("route 0 locks 1;", 1, 8);
    }

    @Sentence("statement: number verb number [ \"when\" number position ] | \"route\" number { number } | "
            + "\"conflict\" number number")
    static void section7_aConflictHasTwoNumbers() {
        due("conflictCount", frame("levers 3;route 0;route 1;conflict 0 1;").conflictCount(), 1);
        errorIn("route 0;route 1;conflict;", 1, 24);
        errorIn("route 0;route 1;conflict 0;", 1, 26);
        errorIn("route 0;route 1;route 2;conflict 0 1 2;", 1, 37);
    }

    @Sentence("verb: \"locks\" | \"releases\" | \"holds\"")
    static void section7_threeVerbsAndNoOthers() {
        InterlockingFrame frame = frame("levers 3;0 locks 1;0 releases 1;0 holds 1;");
        for (int kind = 0; kind <= 2; kind++) {
            due("ruleKind " + kind, frame.ruleKind(kind), kind);
        }
        for (String verb : new String[] {"lock", "lockss", "release", "hold", "when", "normal", "x"}) {
            errorIn("0 " + verb + " 1;", 1, 2);
        }
    }

    @Sentence("position: \"normal\" | \"reversed\"")
    static void section7_twoPositionsAndNoOthers() {
        InterlockingFrame frame = frame("levers 3;0 locks 1 when 2 normal;0 locks 1 when 2 reversed;");
        due("ruleCondition normal", frame.ruleCondition(0), 4);
        due("ruleCondition reversed", frame.ruleCondition(1), 5);
        for (String position : new String[] {"norma", "normally", "reverse", "reversedx", "locks", "1"}) {
            errorIn("0 locks 1 when 2 " + position + ";", 1, 17);
        }
    }

    // ---- tokens

    @Sentence("A token is a word (the longest sequence of lowercase letters), a number (the longest sequence of digits) "
            + "or any other single byte except a blank")
    static void section7_aWordIsTheLongestSequenceOfLetters() {
        for (String word : new String[] {"lever", "leversa", "leversz", "leverslevers", "a", "z"}) {
            Check.error(word + " 3;", 1, 0);
        }
        Check.error("Levers 3;", 1, 0);
        Check.error("leverS 3;", 1, 0);
        // The bytes next to the letters end the word, so that it is the byte that is in error.
        Check.error("levers` 3;", 1, 6);
        Check.error("levers{ 3;", 1, 6);
        Check.error("leversA 3;", 1, 6);
        Check.error("lev ers 3;", 1, 0);
    }

    @Sentence("A token is a word (the longest sequence of lowercase letters), a number (the longest sequence of digits) "
            + "or any other single byte except a blank")
    static void section7_aNumberIsTheLongestSequenceOfDigits() {
        due("levers 12", frame("levers 12;").leverCount(), 12);
        due("route 10", frame("levers 12;route 10;").routeLevers(0), 1024);
        due("route 1 0", frame("levers 12;route 1 0;").routeLevers(0), 3);
        due("levers 0009", frame("levers 0009;").leverCount(), 9);
        Check.error("levers 2 2;", 1, 9);
        Check.error("levers 3/;", 1, 8);
        Check.error("levers 3:;", 1, 8);
        Check.error("levers 120;", 2, 7);
    }

    @Sentence("A token is a word (the longest sequence of lowercase letters), a number (the longest sequence of digits) "
            + "or any other single byte except a blank")
    static void section7_anyOtherByteIsATokenOfItsOwn() {
        errorIn("route 0;;;", 1, 8);
        for (int sign = 0; sign < 256; sign++) {
            boolean other = sign != 32 && !(sign >= '0' && sign <= '9') && !(sign >= 'a' && sign <= 'z');
            if (other) {
                String twice = String.valueOf((char) sign).repeat(2);
                due("parseSheet of byte " + sign, parsed(" " + twice, 3), -31);
                if (sign != ';') {
                    Check.error("levers 3" + twice, 1, 8);
                }
            }
        }
    }

    @Sentence("Blanks (byte 32) may stand between tokens")
    static void section7_noBlankAndManyBlanks() {
        String wide = "   levers   3   ;   0   locks   1   when   2   normal   ;   route   0   1   ;   ";
        String tight = "levers3;0locks1when2normal;route0 1;";
        same("the same sheet", Check.contents(frame(wide)), Check.contents(frame(tight)));
        due("ruleCondition", frame(wide).ruleCondition(0), 4);
        for (int sign : new int[] {0, 9, 10, 13, 31, 33, 160}) {
            Check.error("levers" + (char) sign + "3;", 1, 6);
            Check.error("levers 3;" + (char) sign, 1, 9);
        }
    }

    @Sentence("A number after a word, or a word after a number, needs no blank")
    static void section7_wordAndNumberNeedNoBlank() {
        InterlockingFrame frame = frame("levers12;10locks11when9reversed;route11 10;route0;conflict1 0;");
        due("leverCount", frame.leverCount(), 12);
        due("ruleLevers", frame.ruleLevers(0), 1011);
        due("ruleCondition", frame.ruleCondition(0), 19);
        due("routeLevers", frame.routeLevers(0), 3072);
        due("conflictCount", frame.conflictCount(), 1);
    }

    // ---- errors

    @Sentence("Parsing stops at the first token that is in error")
    static void section7_theFirstOfSeveralErrorsIsReported() {
        errorIn("0 locks 0;3 locks 1;x", 3, 8);
        errorIn("3 locks 3 x", 2, 0);
        errorIn("0 locks 1;route 0 0;levers", 3, 18);
        errorIn("0 x 9;", 1, 2);
        Check.error("levers 1 x", 2, 7);
        Check.error(RULES_24 + "0 locks 0;x", 4, RULES_24.length());
    }

    @Sentence("1: the token is not allowed here by the grammar")
    static void section7_code1AtEveryPlaceOfTheGrammar() {
        Check.error("x 3;", 1, 0);
        Check.error("levers x;", 1, 7);
        Check.error("levers 3 x", 1, 9);
        errorIn("x", 1, 0);
        errorIn("0 x", 1, 2);
        errorIn("0 locks x", 1, 8);
        errorIn("0 locks 1 x", 1, 10);
        errorIn("0 locks 1 when x", 1, 15);
        errorIn("0 locks 1 when 2 x", 1, 17);
        errorIn("0 locks 1 when 2 normal x", 1, 24);
        errorIn("route x", 1, 6);
        errorIn("route 0 x", 1, 8);
        errorIn("route 0;route 1;conflict x", 1, 25);
        errorIn("route 0;route 1;conflict 0 x", 1, 27);
        errorIn("route 0;route 1;conflict 0 1 x", 1, 29);
    }

    @Sentence("For an unexpected end of the text the offset is the length of the text")
    static void section7_theEndOfTheTextAtEveryPlaceOfTheGrammar() {
        Check.error("", 1, 0);
        String[] tokens = {"levers", " 3", ";0", " locks", " 1", " when", " 2", " normal", ";route", " 0", " 1",
            ";route 2;conflict", " 1", " 0"};
        StringBuilder text = new StringBuilder();
        for (String token : tokens) {
            text.append(token);
            Check.error(text.toString(), 1, text.length());
            Check.error(text + "  ", 1, text.length() + 2);
        }
        due("parseSheet of the whole", parsed(text + ";", text.length() + 1), 5);
    }

    @Sentence("For an unexpected end of the text the offset is the length of the text")
    static void section7_theEndOfTheTextIsTheEndOfTheFirstNBytes() {
        InterlockingFrame frame = new InterlockingFrame();
        Check.append(frame, "levers 3;route 0;".getBytes(StandardCharsets.ISO_8859_1));
        due("parseSheet(16)", frame.parseSheet(16), -31);
        due("parseErrorOffset", frame.parseErrorOffset(), 16);
        Check.append(frame, " ".repeat(900).getBytes(StandardCharsets.ISO_8859_1));
        due("parseSheet(900)", frame.parseSheet(900), -31);
        due("parseErrorOffset", frame.parseErrorOffset(), 900);
    }

    @Sentence("2: a number has more than 4 digits or is out of range")
    static void section7_fourDigitsAreTakenAndFiveAreNot() {
        frame("levers 0003;0000 locks 0001 when 0002 normal;route 0000 0001;route 0002;conflict 0000 0001;");
        Check.error("levers 00003;", 2, 7);
        errorIn("00000 locks 1;", 2, 0);
        errorIn("0 locks 00001;", 2, 8);
        errorIn("0 locks 1 when 00002 normal;", 2, 15);
        errorIn("route 00000;", 2, 6);
        errorIn("route 0 00001;", 2, 8);
        errorIn("route 0;route 1;conflict 00000 1;", 2, 25);
        errorIn("route 0;route 1;conflict 0 00001;", 2, 27);
    }

    @Sentence("2: a number has more than 4 digits or is out of range")
    static void section7_numbersThatWrapAroundAreOutOfRange() {
        Check.error("levers 9999;", 2, 7);
        Check.error("levers 4294967299;", 2, 7);
        Check.error("levers 18446744073709551619;", 2, 7);
        Check.error("levers " + "0".repeat(800) + "3;", 2, 7);
        errorIn("0 locks 65537;", 2, 8);
        errorIn("0 locks 4294967297;", 2, 8);
        errorIn("route 256;", 2, 6);
        errorIn("route 32;", 2, 6);
    }

    @Sentence("The number of levers is 2 to 12, a lever is an existing lever, a route in a conflict is a route that is declared "
            + "earlier in the text")
    static void section7_theNumberOfLeversIs2To12() {
        for (int levers = 0; levers <= 20; levers++) {
            String sheet = "levers " + levers + ";";
            if (levers >= 2 && levers <= 12) {
                due("leverCount", frame(sheet).leverCount(), levers);
            } else {
                Check.error(sheet, 2, 7);
            }
        }
    }

    @Sentence("The number of levers is 2 to 12, a lever is an existing lever, a route in a conflict is a route that is declared "
            + "earlier in the text")
    static void section7_theHighestLeverExistsAndTheNextDoesNot() {
        frame("levers 3;2 locks 0;0 locks 2;0 locks 1 when 2 normal;route 0 2;");
        errorIn("3 locks 0;", 2, 0);
        errorIn("0 locks 3;", 2, 8);
        errorIn("0 locks 1 when 3 normal;", 2, 15);
        errorIn("route 3;", 2, 6);
        errorIn("route 0 3;", 2, 8);
        frame("levers 12;11 locks 0;0 locks 11;0 locks 1 when 11 normal;route 0 11;");
        Check.error("levers 12;12 locks 0;", 2, 10);
        Check.error("levers 12;0 locks 12;", 2, 18);
        Check.error("levers 12;0 locks 1 when 12 normal;", 2, 25);
        Check.error("levers 12;route 12;", 2, 16);
        Check.error("levers 2;2 locks 0;", 2, 9);
    }

    @Sentence("The number of levers is 2 to 12, a lever is an existing lever, a route in a conflict is a route that is declared "
            + "earlier in the text")
    static void section7_theRouteOfAConflictIsDeclaredEarlier() {
        errorIn("conflict 0 1;", 2, 9);
        errorIn("route 0;conflict 1 0;", 2, 17);
        errorIn("route 0;conflict 0 1;", 2, 19);
        errorIn("route 0;conflict 0 1;route 1;", 2, 19);
        frame("levers 3;route 0;route 1;conflict 1 0;route 2;conflict 2 0;");
        frame(ROUTES_8 + "conflict 7 6;");
        Check.error(ROUTES_8 + "conflict 8 0;", 2, ROUTES_8.length() + 9);
        Check.error(ROUTES_8 + "conflict 0 8;", 2, ROUTES_8.length() + 11);
    }

    @Sentence("3: lever B equals lever A")
    static void section7_leverBEqualsLeverA() {
        errorIn("0 locks 0;", 3, 8);
        errorIn("2 releases 2;", 3, 11);
        errorIn("1 holds 0001;", 3, 8);
        Check.error("levers 12;11 locks 11;", 3, 19);
    }

    @Sentence("the condition lever equals A or B")
    static void section7_theConditionLeverEqualsAOrB() {
        errorIn("0 locks 1 when 0 normal;", 3, 15);
        errorIn("0 locks 1 when 1 reversed;", 3, 15);
        errorIn("0 locks 1 when 1 x", 3, 15);
        Check.error("levers 2;0 locks 1 when 1 normal;", 3, 24);
    }

    @Sentence("a lever occurs twice in a route")
    static void section7_aLeverOccursTwiceInARoute() {
        errorIn("route 0 0;", 3, 8);
        errorIn("route 2 1 0 2;", 3, 12);
        Check.error("levers 12;route 0 1 2 3 4 5 6 7 8 9 10 11 11;", 3, 42);
        frame("levers 3;route 0 1;route 1 0;");
    }

    @Sentence("the second route of a conflict equals the first one or the pair is declared already, in either order")
    static void section7_theSecondRouteEqualsTheFirst() {
        errorIn("route 0;conflict 0 0;", 3, 19);
        errorIn("route 0;route 1;conflict 1 1;", 3, 27);
        Check.error(ROUTES_8 + "conflict 7 7;", 3, ROUTES_8.length() + 11);
    }

    @Sentence("the second route of a conflict equals the first one or the pair is declared already, in either order")
    static void section7_thePairIsDeclaredAlreadyInEitherOrder() {
        String routes = "route 0;route 1;route 2;";
        errorIn(routes + "conflict 0 1;conflict 0 1;", 3, 48);
        errorIn(routes + "conflict 0 1;conflict 1 0;", 3, 48);
        errorIn(routes + "conflict 2 0;conflict 1 0;conflict 0 2;", 3, 61);
        frame("levers 3;" + routes + "conflict 0 1;conflict 0 2;conflict 2 1;");
    }

    @Sentence("The error is reported at the number that causes it")
    static void section7_code3IsAtTheNumberNotAtTheStatement() {
        errorIn("  0  locks  0  when 2 normal;", 3, 12);
        errorIn("0 locks 1 when   0 normal;", 3, 17);
        errorIn("route 0 1 2   1;", 3, 14);
        errorIn("route 0;conflict 0   0;", 3, 21);
    }

    @Sentence("4: there are already 24 rules, 8 routes or 8 conflicts")
    static void section7_the25thRule() {
        frame(RULES_24);
        frame(RULES_24 + "route 0;route 1;conflict 0 1;");
        Check.error(RULES_24 + "0 locks 1;", 4, RULES_24.length());
    }

    @Sentence("4: there are already 24 rules, 8 routes or 8 conflicts")
    static void section7_theNinthRoute() {
        frame(ROUTES_8);
        frame(ROUTES_8 + "0 locks 1;conflict 0 1;");
        Check.error(ROUTES_8 + "route 0;", 4, ROUTES_8.length());
    }

    @Sentence("4: there are already 24 rules, 8 routes or 8 conflicts")
    static void section7_theNinthConflict() {
        frame(CONFLICTS_8);
        frame(CONFLICTS_8 + "0 locks 1;");
        Check.error(CONFLICTS_8 + "conflict 1 3;", 4, CONFLICTS_8.length());
    }

    @Sentence("The error is reported at the first token of the statement")
    static void section7_code4IsAtTheFirstTokenOfTheStatement() {
        Check.error(RULES_24 + "  0 locks 1;", 4, RULES_24.length() + 2);
        Check.error(ROUTES_8 + " route 0;", 4, ROUTES_8.length() + 1);
        Check.error(CONFLICTS_8 + "   conflict 1 3;", 4, CONFLICTS_8.length() + 3);
        // What follows in the statement is not read any more.
        Check.error(RULES_24 + "0 locks 0;", 4, RULES_24.length());
        Check.error(ROUTES_8 + "route 9 9;", 4, ROUTES_8.length());
        Check.error(CONFLICTS_8 + "conflict 0 1;", 4, CONFLICTS_8.length());
    }

    @Sentence("If two codes fit the same token, the lower code is reported")
    static void section7_code1BeforeTheOthers() {
        Check.error("levers 3 99999;", 1, 9);
        errorIn("0 99999;", 1, 2);
        errorIn("0 locks 1 00001;", 1, 10);
        Check.error(RULES_24 + "locks", 1, RULES_24.length());
        Check.error(RULES_24 + ";", 1, RULES_24.length());
    }

    @Sentence("If two codes fit the same token, the lower code is reported")
    static void section7_code2BeforeCode3() {
        errorIn("0 locks 00000;", 2, 8);
        errorIn("0 locks 1 when 00001 normal;", 2, 15);
        errorIn("route 0 00000;", 2, 8);
        errorIn("route 0;conflict 0 00000;", 2, 19);
    }

    @Sentence("If two codes fit the same token, the lower code is reported")
    static void section7_code2BeforeCode4() {
        Check.error(RULES_24 + "3 locks 1;", 2, RULES_24.length());
        Check.error(RULES_24 + "00000 locks 1;", 2, RULES_24.length());
    }
}
