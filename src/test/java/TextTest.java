/** Promises 2 to 4: the text, and shapes that are read from it. */
final class TextTest {
    private static final Checks checks = new Checks();
    private static final String TRIANGLE = "0,03,00,3;";
    /** Six vertices of three characters each, then the ";" at 18. */
    private static final String HEXAGON = "0,01,02,12,21,20,1;";

    public static void main(String[] args) {
        appendCharacter();
        clearText();
        loadShapeTakesShapes();
        loadShapeTellsWhereTheTextIsWrong();
        loadShapeRefusesWhatIsNoPiece();
        loadShapeCountsVerticesAndPieces();
        loadShapeChangesNothingOnErrors();
        checks.finish();
    }

    private static void appendCharacter() {
        NestingPlanner planner = new NestingPlanner();
        checks.due("appendCharacter(-1)", planner.appendCharacter(-1), Checks.INVALID);
        checks.due("appendCharacter(256)", planner.appendCharacter(256), Checks.INVALID);
        checks.due("appendCharacter(min)", planner.appendCharacter(Integer.MIN_VALUE), Checks.INVALID);
        checks.due("appendCharacter(max)", planner.appendCharacter(Integer.MAX_VALUE), Checks.INVALID);
        checks.due("appendCharacter(0)", planner.appendCharacter(0), 1);
        checks.due("appendCharacter(255)", planner.appendCharacter(255), 2);
        for (int length = 3; length <= 150; length++) {
            checks.due("appendCharacter(32)", planner.appendCharacter(32), length);
        }
        checks.due("the 151st", planner.appendCharacter(32), Checks.CAPACITY);
        checks.due("the 151st, 256", planner.appendCharacter(256), Checks.INVALID);
        checks.due("clearText of 150", planner.clearText(), 150);
        checks.due("appendCharacter again", planner.appendCharacter(32), 1);
    }

    private static void clearText() {
        NestingPlanner planner = new NestingPlanner();
        checks.due("clearText()", planner.clearText(), 0);
        Checks.type(planner, "0,0");
        checks.due("clearText()", planner.clearText(), 3);
        checks.due("clearText()", planner.clearText(), 0);
        checks.due("clearText() saves nothing", planner.undo(), Checks.ILLEGAL);
    }

    private static void shape(String text, int due) {
        NestingPlanner planner = new NestingPlanner();
        checks.due("loadShape of '" + text + "'", Checks.load(planner, 3, text), due);
        checks.due("pieceCount of '" + text + "'", planner.pieceCount(3), Math.max(due, 0));
        checks.due("the text then", planner.clearText(), due > 0 ? 0 : text.length());
    }

    private static void loadShapeTakesShapes() {
        shape(TRIANGLE, 1);
        shape(HEXAGON, 1);
        shape(TRIANGLE + HEXAGON, 2);
        shape(TRIANGLE + TRIANGLE + "9,98,98,8;", 3);
        shape("  0 , 0  3,0 0 ,3 ;  ", 1);
        shape("0,0 - 3,0 0,-  3;", 1);
        shape("-0,-0-3,-0-0,-3;", 1);
        shape("-9,-99,-99,9-9,9;", 1);
        // begun at any vertex
        shape("3,00,30,0;", 1);
        shape("0,30,03,0;", 1);
        NestingPlanner planner = Checks.with(TRIANGLE);
        checks.due("in place of another", Checks.load(planner, 0, TRIANGLE + HEXAGON), 2);
        checks.due("pieceCount then", planner.pieceCount(0), 2);
        checks.due("piece 1 is the hexagon", planner.doubleArea(0, 1), 6);
    }

    private static void loadShapeTellsWhereTheTextIsWrong() {
        shape("", -10);
        shape("   ", -13);
        shape("x", -10);
        shape("  x", -12);
        shape("\t0,0", -10);
        shape("\u00ff", -10);
        shape("+1,0", -10);
        shape(",", -10);
        shape(";", -10);
        shape("10,0", -11);
        shape("0 0,", -12);
        shape("--1,0", -11);
        shape("-,0", -11);
        shape("0,-,", -13);
        shape("0;", -11);
        shape("0,;", -12);
        shape("0,0,", -13);
        shape("0,00", -14);
        shape("0,0/", -13);
        shape("0,0:", -13);
        shape("0,0@", -13);
        // the text ends inside a piece
        shape("0", -11);
        shape("0,", -12);
        shape("-", -11);
        shape("- ", -12);
        shape("0,03,00,3", -19);
        shape("0,03,00,3 ", -20);
        shape(TRIANGLE + "0", -21);
        shape(TRIANGLE + "0,03,00,3", -29);
        // something wrong behind a piece
        shape(TRIANGLE + "x", -20);
        shape(TRIANGLE + "  x", -22);
        shape(TRIANGLE + ";", -20);
        shape(TRIANGLE + "0,03,0;", -26);
    }

    private static void loadShapeRefusesWhatIsNoPiece() {
        shape("0,0;", -13);
        shape("0,03,0;", -16);
        shape("0,03,0  ;", -18);
        // clockwise
        shape("0,00,33,0;", -19);
        // on a line
        shape("0,02,04,0;", -19);
        shape("0,02,04,00,4;", -22);
        shape("0,04,00,40,2;", -22);
        // a vertex twice
        shape("0,00,03,0;", -19);
        shape("0,03,03,00,3;", -22);
        shape("0,03,00,30,0;", -22);
        shape("0,03,00,30,03,00,3;", -28);
        // a turn to the right
        shape("0,04,01,10,4;", -22);
        shape("0,04,01,10,4  ;", -24);
        // a bow tie
        shape("0,02,20,22,0;", -22);
        // a pentagram turns to the left everywhere, but goes around twice
        shape("-2,-33,1-3,12,-30,4;", -29);
        // the same points, once around
        shape("-2,-32,-33,10,4-3,1;", 1);
    }

    private static void loadShapeCountsVerticesAndPieces() {
        String open = HEXAGON.substring(0, 18);
        shape(open + "0,0;", -28);
        shape(open + "-1,0;", -28);
        shape(open + "  0,0;", -30);
        shape(open + "x", -28);
        shape(open, -28);
        String three = TRIANGLE + TRIANGLE + TRIANGLE;
        shape(three + "  ", 3);
        shape(three + TRIANGLE, -40);
        shape(three + "  -1", -42);
        shape(three + ";", -40);
        // 150 characters
        String wide = "0,0 - 3,0 0,- 3;";
        shape(wide + " ".repeat(150 - wide.length()), 1);
        shape(" ".repeat(150), -160);
    }

    private static void loadShapeChangesNothingOnErrors() {
        NestingPlanner planner = Checks.with(TRIANGLE + TRIANGLE);
        Checks.type(planner, "0,0");
        checks.due("loadShape(-1)", planner.loadShape(-1), Checks.INVALID);
        checks.due("loadShape(4)", planner.loadShape(4), Checks.INVALID);
        checks.due("loadShape(0)", planner.loadShape(0), -13);
        checks.due("loadShape(1)", planner.loadShape(1), -13);
        checks.due("pieceCount(0)", planner.pieceCount(0), 2);
        Checks.type(planner, "3,00,3;");
        checks.due("the text was kept", planner.loadShape(1), 1);
        checks.due("undo", planner.undo(), 1);
        checks.due("undo", planner.undo(), 0);
        checks.due("undo", planner.undo(), Checks.ILLEGAL);
    }
}
