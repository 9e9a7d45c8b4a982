import java.util.ArrayList;
import java.util.Arrays;
import java.util.Collections;
import java.util.List;
import java.util.function.Supplier;

/**
 * Boundary cases of shapes and slots: promises 4 to 11. Above each test stands the sentence of the
 * document that it is for.
 */
final class ShapeBoundaryTest {
    private static final Checks checks = new Checks();
    private static final Boundary boundary = new Boundary(checks);
    private static final String TRIANGLE = "0,03,00,3;";
    private static final String SIX = "0,01,02,12,21,20,1;";
    /** Eighteen corners of one convex polygon, in three pieces of six. */
    private static final String EIGHTEEN =
        "0,-11,-14,06,17,28,4;8,57,76,84,93,90,8;-2,7-3,6-4,4-4,3-3,1-2,0;";

    public static void main(String[] args) {
        slotsAtFirst();
        oneToThreePieces();
        threeToSixVertices();
        coordinatesFromMinus9To9();
        noThreeVerticesOnALine();
        noTurnToTheRight();
        counterclockwise();
        goingAroundOnce();
        noVertexTwice();
        begunAtAnyVertex();
        piecesMayTouchOverlapOrBeApart();
        loadShapeSlot();
        loadShapeRefusesBeforeItReads();
        loadShapeReplaces();
        clearShape();
        clearShapeOfAnEmptySlot();
        copyShapeArguments();
        copyShapeOfAnEmptySlot();
        copyShapeTurns();
        copyShapeToItself();
        pieceCount();
        doubleAreaArguments();
        doubleAreaLeastAndGreatest();
        hullSize();
        hullLeastAndGreatest();
        hullTurnsStrictly();
        hullBeginsLowestThenLeft();
        hullVertexArguments();
        hullVertexBehindTheLast();
        hullVertexErrorsInOrder();
        extentArguments();
        extentLeastAndGreatest();
        checks.finish();
    }

    private static void reads(String text, int due) {
        NestingPlanner planner = new NestingPlanner();
        checks.due("loadShape of '" + text + "'", Checks.load(planner, 0, text), due);
    }

    /** The ";" stands behind vertices that form no piece. */
    private static void noPiece(String text) {
        reads(text, -10 - text.lastIndexOf(';'));
    }

    /** The piece, and all others that differ from it in the vertex at which it begins. */
    private static List<String> begunAnywhere(String... vertices) {
        List<String> list = new ArrayList<>(Arrays.asList(vertices));
        List<String> result = new ArrayList<>();
        for (int k = 0; k < vertices.length; k++) {
            result.add(String.join("", list) + ";");
            Collections.rotate(list, 1);
        }
        return result;
    }

    private static void noPieces(String... vertices) {
        for (String text : begunAnywhere(vertices)) {
            noPiece(text);
        }
    }

    private static void pieces(int doubleArea, String... vertices) {
        for (String text : begunAnywhere(vertices)) {
            NestingPlanner planner = new NestingPlanner();
            checks.due("loadShape of '" + text + "'", Checks.load(planner, 0, text), 1);
            checks.due("doubleArea of '" + text + "'", planner.doubleArea(0, 0), doubleArea);
        }
    }

    // ---- what a shape is

    /** "four shape slots, 0 to 3, .. (at first they are empty)". */
    private static void slotsAtFirst() {
        NestingPlanner planner = new NestingPlanner();
        for (int slot = 0; slot < 4; slot++) {
            checks.due("pieceCount(" + slot + ") at first", planner.pieceCount(slot), 0);
            checks.due("hullSize(" + slot + ") at first", planner.hullSize(slot), Checks.ILLEGAL);
        }
        checks.due("pieceCount(-1)", planner.pieceCount(-1), Checks.INVALID);
        checks.due("pieceCount(4)", planner.pieceCount(4), Checks.INVALID);
    }

    /** "A shape consists of 1 to 3 pieces, numbered from 0." */
    private static void oneToThreePieces() {
        reads("", -10);
        reads(TRIANGLE, 1);
        reads(TRIANGLE + TRIANGLE, 2);
        reads(TRIANGLE + TRIANGLE + TRIANGLE, 3);
        reads(TRIANGLE + TRIANGLE + TRIANGLE + TRIANGLE, -10 - 30);
        NestingPlanner planner = Checks.with("0,01,00,1;0,02,00,1;0,03,00,1;");
        checks.due("piece -1", planner.doubleArea(0, -1), Checks.INVALID);
        checks.due("piece 0", planner.doubleArea(0, 0), 1);
        checks.due("piece 1", planner.doubleArea(0, 1), 2);
        checks.due("piece 2", planner.doubleArea(0, 2), 3);
        checks.due("piece 3", planner.doubleArea(0, 3), Checks.INVALID);
    }

    /** "A piece is a convex polygon with 3 to 6 vertices". */
    private static void threeToSixVertices() {
        reads("0,03,0;", -16);
        reads("0,03,00,3;", 1);
        reads("0,03,03,30,3;", 1);
        reads("0,02,03,23,30,3;", 1);
        reads(SIX, 1);
        // the seventh vertex would be fine
        reads("0,02,03,13,22,30,3-1,1;", -10 - 18);
        NestingPlanner planner = Checks.with(SIX);
        checks.due("all six vertices count", planner.hullSize(0), 6);
    }

    /** "whose coordinates are integers from -9 to 9". */
    private static void coordinatesFromMinus9To9() {
        NestingPlanner planner = Checks.with("-9,-99,-99,9-9,9;");
        checks.due("right", planner.extent(0, 0), 9);
        checks.due("top", planner.extent(0, 2), 9);
        checks.due("left", planner.extent(0, 4), 9);
        checks.due("bottom", planner.extent(0, 6), 9);
        reads("0,010,0 0,3;", -10 - 4);
        reads("0,0-10,0 0,3;", -10 - 5);
        reads("0,03,00,10;", -10 - 10);
        reads("0,03,00,-10;", -10 - 11);
    }

    /** "(no three successive vertices are on a line)": wherever the three stand, also behind the end. */
    private static void noThreeVerticesOnALine() {
        noPieces("0,0", "2,0", "4,0", "0,4");
        noPieces("0,0", "4,0", "0,4", "0,1");
        noPieces("0,0", "4,0", "2,2", "0,4");
        noPieces("0,0", "2,1", "4,2", "0,4");
        noPieces("0,0", "1,0", "2,0", "2,1", "2,2", "0,2");
        noPieces("0,0", "2,0", "4,0");
        noPieces("0,0", "2,2", "4,4");
        // it goes forth and back on the line
        noPieces("0,0", "4,0", "2,0");
        noPieces("0,0", "4,0", "2,0", "0,4");
        noPieces("0,0", "4,0", "0,4", "2,2");
        // almost on a line
        pieces(16, "0,0", "2,-1", "4,0", "0,3");
        pieces(19, "-9,-9", "8,7", "9,8", "-9,-8");
    }

    /** "at each vertex the boundary turns strictly to the left": one turn to the right, anywhere. */
    private static void noTurnToTheRight() {
        noPieces("0,0", "4,0", "1,1", "0,4");
        noPieces("0,0", "4,0", "4,4", "2,1", "0,4");
        noPieces("0,0", "2,1", "4,0", "4,4", "0,4");
        noPieces("0,0", "2,0", "2,2", "1,1", "0,2", "-1,1");
        noPieces("0,0", "2,2", "0,2", "2,0");
    }

    /** "Its vertices are given counterclockwise". */
    private static void counterclockwise() {
        noPieces("0,0", "0,3", "3,0");
        noPieces("0,0", "0,3", "3,3", "3,0");
        noPieces("0,1", "1,2", "2,2", "2,1", "1,0", "0,0");
        pieces(9, "0,0", "3,0", "0,3");
        pieces(18, "0,0", "3,0", "3,3", "0,3");
        pieces(6, "0,0", "1,0", "2,1", "2,2", "1,2", "0,1");
    }

    /** "going around once": these turn strictly to the left at each vertex, but go around twice. */
    private static void goingAroundOnce() {
        noPieces("-2,-3", "3,1", "-3,1", "2,-3", "0,4");
        noPieces("5,-3", "0,5", "-5,-3", "4,-3", "0,4", "-4,-2");
        noPieces("0,0", "3,0", "0,3", "0,0", "3,0", "0,3");
    }

    /** A vertex that comes twice is on a line with each other one. */
    private static void noVertexTwice() {
        noPieces("0,0", "0,0", "3,0", "0,3");
        noPieces("0,0", "0,0", "0,0");
        noPieces("0,0", "3,0", "0,0");
        noPieces("0,0", "3,0", "0,0", "0,3");
        noPieces("0,0", "3,0", "3,3", "0,0", "0,3");
    }

    /** A piece may begin at any of its vertices. */
    private static void begunAtAnyVertex() {
        pieces(648, "-9,-9", "9,-9", "9,9", "-9,9");
        pieces(1, "0,0", "1,0", "0,1");
        pieces(26, "0,0", "4,0", "4,2", "3,3", "0,3", "-1,1");
    }

    /** "Pieces of a shape may touch, overlap, or be apart". */
    private static void piecesMayTouchOverlapOrBeApart() {
        reads(TRIANGLE + "3,06,03,3;", 2);
        reads(TRIANGLE + "1,15,11,5;", 2);
        reads(TRIANGLE + "5,59,55,9;", 2);
        reads(TRIANGLE + TRIANGLE, 2);
        reads("-9,-99,-99,9-9,9;" + TRIANGLE, 2);
        reads(TRIANGLE + "3,03,30,3;", 2);
    }

    // ---- promise 4

    /** "slot: 0 to 3"; "INVALID_ARGUMENT if slot is out of range". */
    private static void loadShapeSlot() {
        Supplier<NestingPlanner> setup = Boundary.typed(SIX + TRIANGLE);
        Boundary.Asked load = boundary.ask("loadShape", setup, (planner, a) -> planner.loadShape(a[0]), 1);
        load.takes(0, 0, 2);
        load.takes(0, 3, 2);
        load.refusesBeyond(0, 0, 3);
    }

    /** The slot is named before the text. */
    private static void loadShapeRefusesBeforeItReads() {
        boundary.refused("loadShape(4) of no shape", Boundary::busy, planner -> planner.loadShape(4), Checks.INVALID);
        boundary.refused("loadShape(-1) of nothing", Boundary.typed(""), planner -> planner.loadShape(-1),
            Checks.INVALID);
    }

    /** "stores it in a slot, in place of what was there. The text becomes empty." */
    private static void loadShapeReplaces() {
        NestingPlanner planner = Boundary.typed(TRIANGLE).get();
        checks.due("loadShape", planner.loadShape(2), 1);
        checks.due("of three pieces one is left", planner.pieceCount(2), 1);
        checks.due("piece 1 is gone", planner.doubleArea(2, 1), Checks.INVALID);
        checks.due("the hull is the new one's", planner.hullSize(2), 3);
        checks.due("the next slot is as before", planner.doubleArea(3, 0), 2);
        checks.due("the text is empty", planner.clearText(), 0);
        checks.due("nothing is left to be read", planner.loadShape(2), -10);
        checks.due("and the shape stays", planner.pieceCount(2), 1);
    }

    // ---- promise 5

    /** "slot: 0 to 3"; "INVALID_ARGUMENT if slot is out of range". */
    private static void clearShape() {
        Boundary.Asked clear =
            boundary.ask("clearShape", Boundary::busy, (planner, a) -> planner.clearShape(a[0]), 1);
        clear.takes(0, 0, 1);
        clear.takes(0, 2, 3);
        clear.takes(0, 3, 1);
        clear.refusesBeyond(0, 0, 3);
    }

    /** "ILLEGAL_STATE if it is empty": at first, and when it has just been cleared. */
    private static void clearShapeOfAnEmptySlot() {
        for (int slot = 0; slot < 4; slot++) {
            int cleared = slot;
            boundary.refused("clearShape(" + slot + ") again", Boundary.lacking(slot),
                planner -> planner.clearShape(cleared), Checks.ILLEGAL);
            boundary.refused("clearShape(" + slot + ") at first", NestingPlanner::new,
                planner -> planner.clearShape(cleared), Checks.ILLEGAL);
        }
    }

    // ---- promise 6

    /** "from: 0 to 3", "to: 0 to 3", "turns: 0 to 3". */
    private static void copyShapeArguments() {
        Boundary.Asked copy = boundary.ask("copyShape", Boundary::busy,
            (planner, a) -> planner.copyShape(a[0], a[1], a[2]), 2, 1, 1);
        copy.takes(0, 0, 1);
        copy.takes(0, 3, 1);
        copy.refusesBeyond(0, 0, 3);
        copy.takes(1, 0, 3);
        copy.takes(1, 3, 3);
        copy.refusesBeyond(1, 0, 3);
        copy.takes(2, 0, 3);
        copy.takes(2, 3, 3);
        copy.refusesBeyond(2, 0, 3);
    }

    /** "ILLEGAL_STATE if from is empty"; an argument that is out of range is named before. */
    private static void copyShapeOfAnEmptySlot() {
        Supplier<NestingPlanner> setup = Boundary.lacking(1);
        boundary.refused("copyShape(1,0,0)", setup, planner -> planner.copyShape(1, 0, 0), Checks.ILLEGAL);
        boundary.refused("copyShape(1,1,0)", setup, planner -> planner.copyShape(1, 1, 0), Checks.ILLEGAL);
        boundary.refused("copyShape(1,4,0)", setup, planner -> planner.copyShape(1, 4, 0), Checks.INVALID);
        boundary.refused("copyShape(1,-1,0)", setup, planner -> planner.copyShape(1, -1, 0), Checks.INVALID);
        boundary.refused("copyShape(1,0,4)", setup, planner -> planner.copyShape(1, 0, 4), Checks.INVALID);
        boundary.refused("copyShape(1,0,-1)", setup, planner -> planner.copyShape(1, 0, -1), Checks.INVALID);
        NestingPlanner planner = setup.get();
        checks.due("into an empty slot", planner.copyShape(2, 1, 0), 3);
        checks.due("pieceCount(1) then", planner.pieceCount(1), 3);
    }

    /** "one quarter turn takes (x, y) to (-y, x)": none, one and three; four are out of range. */
    private static void copyShapeTurns() {
        // the vertex (9, -8), of which all others are to the left
        int[][] due = {{9, 0, 9, 8}, {8, 9, 0, 9}, {9, 8, 9, 0}, {0, 9, 8, 9}};
        for (int turns = 0; turns < 4; turns++) {
            NestingPlanner planner = Checks.with("-9,-89,-8-9,0;");
            checks.due("copyShape", planner.copyShape(0, 1, turns), 1);
            int[] extents = {planner.extent(1, 0), planner.extent(1, 2), planner.extent(1, 4), planner.extent(1, 6)};
            checks.same(turns + " turns", Arrays.toString(extents), Arrays.toString(due[turns]));
        }
    }

    /** "to: 0 to 3, possibly the same". */
    private static void copyShapeToItself() {
        NestingPlanner planner = Checks.with("0,03,00,1;1,12,11,2;");
        checks.due("copyShape(0,0,0)", planner.copyShape(0, 0, 0), 2);
        checks.due("it is as before", planner.extent(0, 0), 3);
        for (int turn = 1; turn <= 4; turn++) {
            checks.due("copyShape(0,0,1)", planner.copyShape(0, 0, 1), 2);
            checks.due("upward after turn " + turn, planner.extent(0, 2), new int[] {2, 3, 0, 0, 2}[turn]);
            checks.due("to the right after turn " + turn, planner.extent(0, 0), new int[] {3, 0, 0, 2, 3}[turn]);
        }
    }

    // ---- promises 7 and 8

    /** "Returns the number of pieces, 0 if the slot is empty; INVALID_ARGUMENT if slot is out of range." */
    private static void pieceCount() {
        Boundary.Asked count =
            boundary.ask("pieceCount", Boundary::busy, (planner, a) -> planner.pieceCount(a[0]), 1);
        count.takes(0, 0, 1);
        count.takes(0, 2, 3);
        count.takes(0, 3, 1);
        count.refusesBeyond(0, 0, 3);
        boundary.taken("pieceCount(3) of an empty slot", Boundary.lacking(3), planner -> planner.pieceCount(3), 0);
        boundary.taken("pieceCount(0) of an empty slot", Boundary.lacking(0), planner -> planner.pieceCount(0), 0);
    }

    /** "INVALID_ARGUMENT if slot is out of range, or its shape has no such piece (or it is empty)". */
    private static void doubleAreaArguments() {
        Boundary.Asked area = boundary.ask("doubleArea", Boundary::busy,
            (planner, a) -> planner.doubleArea(a[0], a[1]), 2, 0);
        area.takes(0, 0, 8);
        area.takes(0, 3, 2);
        area.refusesBeyond(0, 0, 3);
        area.takes(1, 0, 6);
        area.takes(1, 2, 1);
        area.refusesBeyond(1, 0, 2);
        boundary.refused("doubleArea(0,1) of one piece", Boundary::busy, planner -> planner.doubleArea(0, 1),
            Checks.INVALID);
        boundary.refused("doubleArea(3,0) of an empty slot", Boundary.lacking(3),
            planner -> planner.doubleArea(3, 0), Checks.INVALID);
    }

    /** The least area, 1, and the greatest, 18 by 18. */
    private static void doubleAreaLeastAndGreatest() {
        NestingPlanner planner = Checks.with("8,89,88,9;-9,-9-8,-7-9,-8;-9,-99,-99,9-9,9;");
        checks.due("the least area", planner.doubleArea(0, 0), 1);
        checks.due("the least area, slanted", planner.doubleArea(0, 1), 1);
        checks.due("the greatest area", planner.doubleArea(0, 2), 2 * 18 * 18);
    }

    // ---- promises 9 and 10

    /** "INVALID_ARGUMENT if slot is out of range; ILLEGAL_STATE if it is empty." */
    private static void hullSize() {
        Boundary.Asked size = boundary.ask("hullSize", Boundary::busy, (planner, a) -> planner.hullSize(a[0]), 1);
        size.takes(0, 0, 4);
        size.takes(0, 1, 3);
        size.takes(0, 3, 4);
        size.refusesBeyond(0, 0, 3);
        for (int slot = 0; slot < 4; slot++) {
            int cleared = slot;
            boundary.refused("hullSize(" + slot + ") of an empty slot", Boundary.lacking(slot),
                planner -> planner.hullSize(cleared), Checks.ILLEGAL);
        }
    }

    private static void hull(String shape, int... due) {
        NestingPlanner planner = Checks.with(shape);
        checks.due("hullSize of " + shape, planner.hullSize(0), due.length / 2);
        for (int k = 0; k < due.length; k++) {
            checks.due("hullVertex " + k / 2 + " of " + shape, planner.hullVertex(0, k / 2, k % 2), due[k]);
        }
        checks.due("hullVertex behind the last, x, of " + shape, planner.hullVertex(0, due.length / 2, 0), Checks.NONE);
        checks.due("hullVertex behind the last, y, of " + shape, planner.hullVertex(0, due.length / 2, 1), Checks.NONE);
    }

    /** "The hull of a shape is the convex hull of all vertices of its pieces": of 3 and of all 18. */
    private static void hullLeastAndGreatest() {
        hull("-9,-99,-90,9;0,01,00,1;0,0-1,00,-1;", -9, -9, 9, -9, 0, 9);
        hull(EIGHTEEN, 0, -1, 1, -1, 4, 0, 6, 1, 7, 2, 8, 4, 8, 5, 7, 7, 6, 8, 4, 9, 3, 9, 0, 8, -2, 7, -3, 6,
            -4, 4, -4, 3, -3, 1, -2, 0);
    }

    /** "those at which the boundary turns strictly to the left": none on an edge, none twice. */
    private static void hullTurnsStrictly() {
        hull("0,02,02,20,2;2,04,04,22,2;4,06,06,24,2;", 0, 0, 6, 0, 6, 2, 0, 2);
        hull("0,02,00,2;2,04,02,2;0,22,20,4;", 0, 0, 4, 0, 0, 4);
        hull("0,03,00,3;0,03,00,3;0,03,00,3;", 0, 0, 3, 0, 0, 3);
        hull("0,01,11,2;1,12,22,3;2,23,33,4;", 0, 0, 3, 3, 3, 4, 1, 2);
    }

    /** "beginning with the lowest vertex, of two lowest ones the left one". */
    private static void hullBeginsLowestThenLeft() {
        // wherever it stands among the vertices
        hull("4,40,40,04,0;", 0, 0, 4, 0, 4, 4, 0, 4);
        hull("4,04,40,40,0;", 0, 0, 4, 0, 4, 4, 0, 4);
        hull("5,62,70,03,0;", 0, 0, 3, 0, 5, 6, 2, 7);
        // the two lowest are of two pieces
        hull("5,06,05,1;-5,0-4,0-5,1;", -5, 0, 6, 0, 5, 1, -5, 1);
        hull("5,06,05,1;-9,5-8,5-9,6;", 5, 0, 6, 0, 5, 1, -9, 6, -9, 5);
        // the lowest is the second vertex, and what is next to it is no vertex of the hull
        hull("-9,50,-99,5;0,01,00,1;", 0, -9, 9, 5, -9, 5);
        hull("-9,50,-99,5;0,-11,-10,0;0,01,00,1;", 0, -9, 9, 5, -9, 5);
        // the first vertices are no vertices of the hull
        hull("0,01,00,1;-9,-59,-50,9;", -9, -5, 9, -5, 0, 9);
        hull("0,01,00,1;-1,-10,-1-1,0;0,9-9,-59,-5;", -9, -5, 9, -5, 0, 9);
        // turns make each vertex of the first piece the lowest one
        int[][] turned = {{0, -9, 9, 5, -9, 5}, {-5, -9, 9, 0, -5, 9}, {-9, -5, 9, -5, 0, 9}, {5, -9, 5, 9, -9, 0}};
        for (int turns = 0; turns < 4; turns++) {
            NestingPlanner planner = Checks.with("-9,50,-99,5;0,01,00,1;");
            planner.copyShape(0, 1, turns);
            checks.due("hullSize, turned " + turns, planner.hullSize(1), 3);
            for (int k = 0; k < 6; k++) {
                String what = "hullVertex " + k / 2 + ", turned " + turns;
                checks.due(what, planner.hullVertex(1, k / 2, k % 2), turned[turns][k]);
            }
        }
        // the lowest is at the right
        hull("0,8-9,99,-9;", 9, -9, 0, 8, -9, 9);
    }

    /** "slot", "vertex: .. from 0", "coordinate: 0 for x, 1 for y". */
    private static void hullVertexArguments() {
        Boundary.Asked vertex = boundary.ask("hullVertex", Boundary::busy,
            (planner, a) -> planner.hullVertex(a[0], a[1], a[2]), 1, 1, 0);
        vertex.takes(0, 0, 2);
        vertex.takes(0, 3, 1);
        vertex.refusesBeyond(0, 0, 3);
        vertex.takes(1, 0, 0);
        vertex.refuses(1, -1, Checks.INVALID);
        vertex.refuses(1, Integer.MIN_VALUE, Checks.INVALID);
        vertex.takes(2, 0, 3);
        vertex.takes(2, 1, 0);
        vertex.refusesBeyond(2, 0, 1);
    }

    /** "NONE if there is no such vertex". */
    private static void hullVertexBehindTheLast() {
        Boundary.Asked vertex = boundary.ask("hullVertex", Boundary::busy,
            (planner, a) -> planner.hullVertex(a[0], a[1], a[2]), 1, 0, 1);
        vertex.takes(1, 2, 3);
        vertex.refuses(1, 3, Checks.NONE);
        vertex.refuses(1, 4, Checks.NONE);
        vertex.refuses(1, Integer.MAX_VALUE, Checks.NONE);
    }

    /** INVALID_ARGUMENT before ILLEGAL_STATE before NONE. */
    private static void hullVertexErrorsInOrder() {
        Boundary.Asked vertex = boundary.ask("hullVertex of an empty slot", Boundary.lacking(2),
            (planner, a) -> planner.hullVertex(a[0], a[1], a[2]), 2, 0, 0);
        vertex.refuses(1, 0, Checks.ILLEGAL);
        vertex.refuses(1, 99, Checks.ILLEGAL);
        vertex.refuses(1, -1, Checks.INVALID);
        vertex.refuses(2, 2, Checks.INVALID);
        boundary.refused("no such coordinate and vertex", Boundary::busy, planner -> planner.hullVertex(0, 99, 2),
            Checks.INVALID);
    }

    // ---- promise 11

    /** "slot: 0 to 3", "direction: 0 to 7"; "ILLEGAL_STATE if the slot is empty". */
    private static void extentArguments() {
        Boundary.Asked extent = boundary.ask("extent", Boundary::busy,
            (planner, a) -> planner.extent(a[0], a[1]), 1, 1);
        extent.takes(0, 0, 4);
        extent.takes(0, 3, 2);
        extent.refusesBeyond(0, 0, 3);
        extent.takes(1, 0, 3);
        extent.takes(1, 7, 3);
        extent.refusesBeyond(1, 0, 7);
        Boundary.Asked empty = boundary.ask("extent of an empty slot", Boundary.lacking(2),
            (planner, a) -> planner.extent(a[0], a[1]), 2, 1);
        empty.refuses(1, 0, Checks.ILLEGAL);
        empty.refuses(1, 7, Checks.ILLEGAL);
        empty.refuses(1, 8, Checks.INVALID);
        empty.refuses(1, -1, Checks.INVALID);
    }

    /** The greatest extent, 18 along a diagonal, and the least, -17: also it may be below 0. */
    private static void extentLeastAndGreatest() {
        NestingPlanner planner = Checks.with("8,99,89,9;", "-9,-9-8,-9-9,-8;");
        checks.due("extent(0,1)", planner.extent(0, 1), 18);
        checks.due("extent(0,5)", planner.extent(0, 5), -17);
        checks.due("extent(0,0)", planner.extent(0, 0), 9);
        checks.due("extent(0,4)", planner.extent(0, 4), -8);
        checks.due("extent(0,3)", planner.extent(0, 3), 1);
        checks.due("extent(0,7)", planner.extent(0, 7), 1);
        checks.due("extent(1,5)", planner.extent(1, 5), 18);
        checks.due("extent(1,1)", planner.extent(1, 1), -17);
        checks.due("extent(1,2)", planner.extent(1, 2), -8);
        checks.due("extent(1,6)", planner.extent(1, 6), 9);
    }
}
