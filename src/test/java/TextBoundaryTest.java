/**
 * Boundary cases of the text: promises 2 and 3, and how promise 4 reads a shape from it. Above each
 * test stands the sentence of the document that it is for.
 */
final class TextBoundaryTest {
    private static final Checks checks = new Checks();
    private static final Boundary boundary = new Boundary(checks);
    private static final String TRIANGLE = "0,03,00,3;";
    /** Six vertices in 18 characters, without the ";". */
    private static final String SIX = "0,01,02,12,21,20,1";
    private static final String DIGITS = "0123456789";

    public static void main(String[] args) {
        codesFrom0To255();
        textIsFullAt150();
        rangeIsNamedBeforeCapacity();
        fullTextIsKept();
        clearTextOfNone();
        clearTextOfAll();
        spacesAreCode32Alone();
        spacesEverywhere();
        noSpaceBeforeTheNextVertex();
        numbersHaveOneDigit();
        numbersHaveOneSign();
        whatMayFollow();
        offsetOfTheFirstWrongCharacter();
        textEndsInsideAPiece();
        textWithoutAPiece();
        semicolonBehindTooFewVertices();
        semicolonBehindVerticesThatFormNoPiece();
        firstCharacterOfASeventhVertex();
        firstCharacterOfAFourthPiece();
        checks.finish();
    }

    // ---- promises 2 and 3

    /** "character code, 0 to 255"; "INVALID_ARGUMENT if character is out of range". */
    private static void codesFrom0To255() {
        Boundary.Asked append =
            boundary.ask("appendCharacter", Boundary::busy, (planner, a) -> planner.appendCharacter(a[0]), 48);
        append.takes(0, 0, 7);
        append.takes(0, 255, 7);
        append.refusesBeyond(0, 0, 255);
    }

    /** "a text of at most 150 characters"; "CAPACITY_EXCEEDED if the text has 150 characters". */
    private static void textIsFullAt150() {
        boundary.taken("the 150th", Boundary.typed(" ".repeat(149)), planner -> planner.appendCharacter(' '), 150);
        boundary.refused("the 151st", Boundary.typed(" ".repeat(150)), planner -> planner.appendCharacter(' '),
            Checks.CAPACITY);
    }

    /** "If several error codes apply, the one that is named first .. is returned." */
    private static void rangeIsNamedBeforeCapacity() {
        boundary.refused("the 151st, -1", Boundary.typed(" ".repeat(150)), planner -> planner.appendCharacter(-1),
            Checks.INVALID);
        boundary.refused("the 151st, 256", Boundary.typed(" ".repeat(150)), planner -> planner.appendCharacter(256),
            Checks.INVALID);
    }

    /** The characters that are too many change none of the 150: these are still read. */
    private static void fullTextIsKept() {
        NestingPlanner planner = Boundary.typed(" ".repeat(140) + TRIANGLE).get();
        checks.due("the 151st", planner.appendCharacter('x'), Checks.CAPACITY);
        checks.due("the 152nd", planner.appendCharacter('x'), Checks.CAPACITY);
        checks.due("loadShape of 150 characters", planner.loadShape(3), 1);
        checks.due("clearText() then", planner.clearText(), 0);
        NestingPlanner layout = Boundary.items("").get();
        Checks.type(layout, " ".repeat(144) + "0@0,0;");
        checks.due("the 151st", layout.appendCharacter('x'), Checks.CAPACITY);
        checks.due("loadLayout of 150 characters", layout.loadLayout(), 1);
        NestingPlanner wrong = Boundary.typed(" ".repeat(149) + "x").get();
        checks.due("the last of 150 is wrong", wrong.loadShape(3), -10 - 149);
        checks.due("the last of 150 is wrong", wrong.loadLayout(), -10 - 149);
        NestingPlanner spaces = Boundary.typed(" ".repeat(150)).get();
        checks.due("150 spaces", spaces.loadShape(3), -10 - 150);
    }

    /** "Returns the previous length of the text": 0 of an empty one. */
    private static void clearTextOfNone() {
        NestingPlanner planner = new NestingPlanner();
        checks.due("clearText() of a new object", planner.clearText(), 0);
        checks.due("appendCharacter then", planner.appendCharacter('0'), 1);
        checks.due("clearText() of one character", planner.clearText(), 1);
        checks.due("clearText() again", planner.clearText(), 0);
    }

    /** "Makes the text empty": also a full one, and 150 characters have room again. */
    private static void clearTextOfAll() {
        NestingPlanner planner = Boundary.typed("x".repeat(150)).get();
        checks.due("clearText() of 150", planner.clearText(), 150);
        checks.due("clearText() again", planner.clearText(), 0);
        for (int length = 1; length <= 150; length++) {
            checks.due("appendCharacter then", planner.appendCharacter(' '), length);
        }
        checks.due("the 151st then", planner.appendCharacter(' '), Checks.CAPACITY);
    }

    // ---- promise 4: what stands in a text

    /** Reads a text as a shape on a new object, the plain way. */
    private static void reads(String text, int due) {
        NestingPlanner planner = new NestingPlanner();
        checks.due("loadShape of '" + text + "'", Checks.load(planner, 3, text), due);
        checks.due("pieceCount then, of '" + text + "'", planner.pieceCount(3), Math.max(due, 0));
        checks.due("clearText() then, of '" + text + "'", planner.clearText(), due > 0 ? 0 : text.length());
    }

    /** The text is refused at a position, and nothing changes: the text is kept. */
    private static void wrong(String text, int position) {
        boundary.refused("loadShape of '" + text + "'", Boundary.typed(text), planner -> planner.loadShape(0),
            -10 - position);
    }

    /** "Spaces (code 32) are allowed": no other code is a space. */
    private static void spacesAreCode32Alone() {
        reads(" " + TRIANGLE + " ", 1);
        for (int code : new int[] {0, 9, 10, 11, 12, 13, 28, 31, 33, 127, 133, 160, 255}) {
            reads((char) code + TRIANGLE, -10);
            reads("0," + (char) code + "03,00,3;", -12);
            reads(TRIANGLE + (char) code, -20);
        }
    }

    /** "Spaces are allowed everywhere else, also between "-" and digit of a number of a shape." */
    private static void spacesEverywhere() {
        String[] parts = {"0", ",", "0", "3", ",", "-", "1", "-", "2", ",", "3", ";"};
        for (int at = 0; at <= parts.length; at++) {
            StringBuilder text = new StringBuilder();
            for (int k = 0; k < parts.length; k++) {
                text.append(k == at ? "   " : "").append(parts[k]);
            }
            reads(text.append(at == parts.length ? "   " : "").toString(), 1);
        }
        reads("  " + String.join("  ", parts) + "  ", 1);
        NestingPlanner planner = new NestingPlanner();
        Checks.load(planner, 0, String.join(" ", parts));
        checks.due("the sign behind which a space stands", planner.extent(0, 6), 1);
        checks.due("the other sign behind which a space stands", planner.extent(0, 4), 2);
    }

    /** "So a vertex needs no space before the next one." */
    private static void noSpaceBeforeTheNextVertex() {
        reads("0,03,00,3;", 1);
        reads("0,0-3,0-3,-3;", 1);
        reads("0,0 3,0 0,3;", 1);
    }

    /** "number = [ "-" ] digit", "integers from -9 to 9": 10 and -10 cannot be written. */
    private static void numbersHaveOneDigit() {
        reads("-9,-9 9,-9 9,9 -9,9;", 1);
        wrong("10,0 3,0 0,3;", 1);
        wrong("-10,0 3,0 0,3;", 2);
        wrong("0 0,0 3,0 0,3;", 2);
        // the second digit behind a "," begins the next vertex
        wrong("0,10 3,0 0,3;", 5);
        wrong("0,-10 3,0 0,3;", 6);
        reads("0,-10,30,2;", -20);
        reads("0,-13,30,2;", 1);
    }

    /** "[ "-" ]": one sign at most, and no other sign; -0 is 0. */
    private static void numbersHaveOneSign() {
        reads("-0,-03,-0-0,3;", 1);
        wrong("--1,0 3,0 0,3;", 1);
        wrong("- -1,0 3,0 0,3;", 2);
        wrong("+1,0 3,0 0,3;", 0);
        wrong("0,--1 3,0 0,3;", 3);
        wrong("0,+1 3,0 0,3;", 2);
        wrong("0-,1 3,0 0,3;", 1);
    }

    /**
     * Behind a text, each of the 256 codes: some go on (the text then ends inside a piece), some
     * complete the shape (spaces may do either), all others are wrong where they stand.
     */
    private static void follow(String before, String goesOn, String completes, int pieces) {
        for (int code = 0; code <= 255; code++) {
            int due = -10 - before.length();
            if (goesOn.indexOf(code) >= 0) {
                due--;
            } else if (completes.indexOf(code) >= 0) {
                due = pieces;
            }
            reads(before + (char) code, due);
        }
    }

    /** "the offset (from 0) of the first character that is not allowed where it stands". */
    private static void whatMayFollow() {
        follow("", DIGITS + "- ", "", 0);
        follow("-", DIGITS + " ", "", 0);
        follow("- ", DIGITS + " ", "", 0);
        follow("0", ", ", "", 0);
        follow("0,", DIGITS + "- ", "", 0);
        follow("0,0", DIGITS + "- ", "", 0);
        follow("0,0 ", DIGITS + "- ", "", 0);
        follow("0,03,0", DIGITS + "- ", "", 0);
        follow("0,03,00,3", DIGITS + "- ", ";", 1);
        follow("0,03,03,3", DIGITS + "- ", ";", 1);
        follow(SIX, " ", ";", 1);
        follow(SIX + " ", " ", ";", 1);
        follow(TRIANGLE, DIGITS + "-", " ", 1);
        follow(TRIANGLE + TRIANGLE, DIGITS + "-", " ", 2);
        follow(TRIANGLE + TRIANGLE + "0,03,00,3", DIGITS + "- ", ";", 3);
        follow(TRIANGLE + TRIANGLE + TRIANGLE, "", " ", 3);
    }

    /** The same, inside a text that was right: each character in turn becomes a wrong one. */
    private static void offsetOfTheFirstWrongCharacter() {
        String text = " 0 , 0 4,0- 1,3; -9,-9 9,0 0,9; ";
        reads(text, 2);
        for (int at = 0; at < text.length(); at++) {
            reads(text.substring(0, at) + 'x' + text.substring(at + 1), -10 - at);
            reads(text.substring(0, at) + "x" + text.substring(at), -10 - at);
        }
        // the first one counts, not a later one
        wrong("0,0x3x", 3);
        wrong(";x", 0);
        wrong("   @", 3);
    }

    // ---- the cases that the error position names

    /** "If the text ends inside a piece .. the error position is the length of the text." */
    private static void textEndsInsideAPiece() {
        String text = " 0 , 0 4,0- 1,3; -9,-9 9,0 0,9; ";
        for (int length = 0; length <= text.length(); length++) {
            String part = text.substring(0, length);
            int complete = length >= 31 ? 2 : length == 16 || length == 17 ? 1 : 0;
            reads(part, complete > 0 ? complete : -10 - length);
        }
        wrong("0,03,00,3", 9);
        wrong("0,03,00,3   ", 12);
        wrong(SIX, 18);
        wrong(SIX + "  ", 20);
        wrong(TRIANGLE + TRIANGLE + "0,03,00,3", 29);
        wrong(TRIANGLE + "-", 11);
        wrong(TRIANGLE + "- ", 12);
    }

    /** "or contains no piece where a shape is read, the error position is the length of the text". */
    private static void textWithoutAPiece() {
        wrong("", 0);
        wrong(" ", 1);
        wrong("     ", 5);
        boundary.refused("a new object", NestingPlanner::new, planner -> planner.loadShape(0), -10);
    }

    /** "this includes a ";" behind fewer than three vertices". */
    private static void semicolonBehindTooFewVertices() {
        wrong(";", 0);
        wrong("  ;", 2);
        wrong("0,0;", 3);
        wrong("0,0 ;", 4);
        wrong("0,03,0;", 6);
        wrong("0,03,0  ;", 8);
        wrong(TRIANGLE + ";", 10);
        wrong(TRIANGLE + "0,0;", 13);
        wrong(TRIANGLE + TRIANGLE + "0,03,0;", 26);
        // what is behind it does not matter
        wrong("0,03,0;" + TRIANGLE, 6);
    }

    /** "or behind vertices that do not form a piece as described above". */
    private static void semicolonBehindVerticesThatFormNoPiece() {
        wrong("0,00,33,0;", 9);
        wrong("0,00,33,0  ;", 11);
        wrong("0,02,04,0;" + TRIANGLE, 9);
        wrong(TRIANGLE + "0,02,04,0;", 19);
        wrong(TRIANGLE + TRIANGLE + "0,02,04,0;", 29);
        wrong("0,00,00,0;", 9);
        // without the ";" it is not wrong yet
        wrong("0,00,33,0", 9);
        wrong("0,00,33,0x", 9);
        wrong("0,00,33,00", 10);
    }

    /** "the first character of a seventh vertex". */
    private static void firstCharacterOfASeventhVertex() {
        reads(SIX + ";", 1);
        wrong(SIX + "0,0;", 18);
        wrong(SIX + "  0,0;", 20);
        wrong(SIX + "-1,0;", 18);
        wrong(SIX + " - 1,0;", 19);
        wrong(TRIANGLE + SIX + "0,0;", 28);
        // six vertices that form no piece, as no ";" stands behind them
        wrong("0,00,00,00,00,00,00,0;", 18);
        wrong("0,00,00,00,00,00,0  0,0;", 20);
        wrong("0,00,00,00,00,00,0  ", 20);
        wrong("0,00,00,00,00,00,0;", 18);
    }

    /** "and the first character of a fourth piece". */
    private static void firstCharacterOfAFourthPiece() {
        String three = TRIANGLE + TRIANGLE + TRIANGLE;
        reads(three, 3);
        reads(three + "   ", 3);
        wrong(three + TRIANGLE, 30);
        wrong(three + "  " + TRIANGLE, 32);
        wrong(three + "0", 30);
        wrong(three + "-", 30);
        wrong(three + " - 1", 31);
        wrong(three + ";", 30);
    }
}
