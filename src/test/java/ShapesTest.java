/** Promises 5 to 14: slots, hulls, extents and sums. */
final class ShapesTest {
    private static final Checks checks = new Checks();
    private static final int[] NOT_SLOTS = {-1, 4, Integer.MIN_VALUE, Integer.MAX_VALUE};
    private static final String TRIANGLE = "0,03,00,1;";
    private static final String SQUARE = "0,02,02,20,2;";
    /** An L of two pieces that overlap in a square of side 1. */
    private static final String L = "0,03,03,10,1;0,01,01,30,3;";
    private static final String HEXAGON = "0,01,02,12,21,20,1;";
    /** None of its edges is parallel to one of the other hexagon. */
    private static final String OBLIQUE = "0,02,13,32,40,3-1,1;";

    public static void main(String[] args) {
        clearShape();
        copyShape();
        copyShapeLeavesItsSource();
        pieceCount();
        doubleArea();
        hullSize();
        hullVertex();
        extent();
        sumSize();
        sumVertex();
        sumDoubleArea();
        checks.finish();
    }

    private static void clearShape() {
        NestingPlanner planner = Checks.with(L, TRIANGLE);
        planner.place(0, 0, 0);
        for (int slot : NOT_SLOTS) {
            checks.due("clearShape(" + slot + ")", planner.clearShape(slot), Checks.INVALID);
        }
        checks.due("clearShape(2)", planner.clearShape(2), Checks.ILLEGAL);
        checks.due("clearShape(0)", planner.clearShape(0), 2);
        checks.due("pieceCount(0)", planner.pieceCount(0), 0);
        checks.due("pieceCount(1)", planner.pieceCount(1), 1);
        checks.due("clearShape(0) again", planner.clearShape(0), Checks.ILLEGAL);
        checks.due("the item stays", planner.itemAt(2, 1), 0);
    }

    /** Checks the hull of a slot, given as x0, y0, x1, y1.. */
    private static void hull(String what, NestingPlanner planner, int slot, int... due) {
        checks.due(what + ": hullSize", planner.hullSize(slot), due.length / 2);
        for (int k = 0; k < due.length; k++) {
            checks.due(what + ": hullVertex " + k, planner.hullVertex(slot, k / 2, k % 2), due[k]);
        }
        checks.due(what + ": behind it", planner.hullVertex(slot, due.length / 2, 0), Checks.NONE);
    }

    private static void copyShape() {
        NestingPlanner planner = Checks.with(TRIANGLE);
        checks.due("copyShape(0,1,0)", planner.copyShape(0, 1, 0), 1);
        checks.due("copyShape(0,2,1)", planner.copyShape(0, 2, 1), 1);
        hull("no turn", planner, 1, 0, 0, 3, 0, 0, 1);
        hull("one turn", planner, 2, -1, 0, 0, 0, 0, 3);
        checks.due("copyShape(0,3,2)", planner.copyShape(0, 3, 2), 1);
        hull("two turns", planner, 3, 0, -1, 0, 0, -3, 0);
        checks.due("copyShape(0,0,3)", planner.copyShape(0, 0, 3), 1);
        hull("three turns", planner, 0, 0, -3, 1, 0, 0, 0);
        for (int slot : NOT_SLOTS) {
            checks.due("copyShape(" + slot + ",0,0)", planner.copyShape(slot, 0, 0), Checks.INVALID);
            checks.due("copyShape(0," + slot + ",0)", planner.copyShape(0, slot, 0), Checks.INVALID);
            checks.due("copyShape(0,0," + slot + ")", planner.copyShape(0, 0, slot), Checks.INVALID);
        }
        planner.clearShape(2);
        checks.due("copyShape(2,0,0)", planner.copyShape(2, 0, 0), Checks.ILLEGAL);
        checks.due("copyShape(2,0,4)", planner.copyShape(2, 0, 4), Checks.INVALID);
        hull("after errors", planner, 0, 0, -3, 1, 0, 0, 0);
    }

    private static void copyShapeLeavesItsSource() {
        NestingPlanner planner = Checks.with(L);
        checks.due("copyShape(0,1,1)", planner.copyShape(0, 1, 1), 2);
        hull("the source", planner, 0, 0, 0, 3, 0, 3, 1, 1, 3, 0, 3);
        hull("the copy", planner, 1, -3, 0, 0, 0, 0, 3, -1, 3, -3, 1);
        planner.clearShape(0);
        checks.due("the copy stays", planner.pieceCount(1), 2);
        checks.due("copyShape(1,1,1)", planner.copyShape(1, 1, 1), 2);
        checks.due("area of piece 0", planner.doubleArea(1, 0), 6);
        hull("turned again", planner, 1, -1, -3, 0, -3, 0, 0, -3, 0, -3, -1);
    }

    private static void pieceCount() {
        NestingPlanner planner = Checks.with(L, SQUARE + SQUARE + SQUARE);
        checks.due("pieceCount(0)", planner.pieceCount(0), 2);
        checks.due("pieceCount(1)", planner.pieceCount(1), 3);
        checks.due("pieceCount(2)", planner.pieceCount(2), 0);
        checks.due("pieceCount(3)", planner.pieceCount(3), 0);
        for (int slot : NOT_SLOTS) {
            checks.due("pieceCount(" + slot + ")", planner.pieceCount(slot), Checks.INVALID);
        }
    }

    private static void doubleArea() {
        NestingPlanner planner = Checks.with(TRIANGLE + SQUARE + HEXAGON, "-9,-99,-99,9-9,9;");
        checks.due("triangle", planner.doubleArea(0, 0), 3);
        checks.due("square", planner.doubleArea(0, 1), 8);
        checks.due("hexagon", planner.doubleArea(0, 2), 6);
        checks.due("greatest", planner.doubleArea(1, 0), 648);
        checks.due("doubleArea(0,3)", planner.doubleArea(0, 3), Checks.INVALID);
        checks.due("doubleArea(0,-1)", planner.doubleArea(0, -1), Checks.INVALID);
        checks.due("doubleArea(1,1)", planner.doubleArea(1, 1), Checks.INVALID);
        checks.due("doubleArea(2,0)", planner.doubleArea(2, 0), Checks.INVALID);
        for (int slot : NOT_SLOTS) {
            checks.due("doubleArea(" + slot + ",0)", planner.doubleArea(slot, 0), Checks.INVALID);
            checks.due("doubleArea(0," + slot + ")", planner.doubleArea(0, slot), Checks.INVALID);
        }
    }

    private static void hullSize() {
        NestingPlanner planner = Checks.with(L, OBLIQUE);
        checks.due("hullSize of L", planner.hullSize(0), 5);
        checks.due("hullSize of a hexagon", planner.hullSize(1), 6);
        checks.due("hullSize of nothing", planner.hullSize(2), Checks.ILLEGAL);
        for (int slot : NOT_SLOTS) {
            checks.due("hullSize(" + slot + ")", planner.hullSize(slot), Checks.INVALID);
        }
        // three squares in a row: vertices on the hull's edges are none of the hull's
        checks.due("a row", Checks.load(planner, 2, SQUARE + "2,04,04,22,2;4,06,06,24,2;"), 3);
        hull("a row", planner, 2, 0, 0, 6, 0, 6, 2, 0, 2);
        // far corners: all three pieces give vertices
        Checks.load(planner, 3, "-9,-9-8,-9-9,-8;9,98,98,8;9,-99,-88,-9;");
        hull("corners", planner, 3, -9, -9, 9, -9, 9, 9, 8, 9, -9, -8);
        // one piece is inside the other, and turned so that another vertex than before is the lowest
        Checks.load(planner, 3, "-9,-99,0-9,9;6,05,15,-1;");
        hull("one in the other", planner, 3, -9, -9, 9, 0, -9, 9);
        planner.copyShape(3, 3, 3);
        hull("turned", planner, 3, 0, -9, 9, 9, -9, 9);
        // a vertex of both pieces
        Checks.load(planner, 3, SQUARE + "0,00,-22,0;");
        hull("a shared vertex", planner, 3, 0, -2, 2, 0, 2, 2, 0, 2);
    }

    private static void hullVertex() {
        // begun at another vertex than the lowest, or than the left one of two
        NestingPlanner planner = Checks.with("2,40,3-1,10,02,13,3;", "2,02,20,20,0;");
        hull("begun elsewhere", planner, 0, 0, 0, 2, 1, 3, 3, 2, 4, 0, 3, -1, 1);
        hull("two lowest", planner, 1, 0, 0, 2, 0, 2, 2, 0, 2);
        checks.due("vertex max", planner.hullVertex(0, Integer.MAX_VALUE, 0), Checks.NONE);
        checks.due("vertex -1", planner.hullVertex(0, -1, 0), Checks.INVALID);
        checks.due("vertex min", planner.hullVertex(0, Integer.MIN_VALUE, 0), Checks.INVALID);
        checks.due("coordinate 2", planner.hullVertex(0, 0, 2), Checks.INVALID);
        checks.due("coordinate -1", planner.hullVertex(0, 0, -1), Checks.INVALID);
        checks.due("coordinate 2, vertex 9", planner.hullVertex(0, 9, 2), Checks.INVALID);
        checks.due("empty", planner.hullVertex(2, 0, 0), Checks.ILLEGAL);
        checks.due("empty, vertex 99", planner.hullVertex(2, 99, 1), Checks.ILLEGAL);
        checks.due("empty, vertex -1", planner.hullVertex(2, -1, 1), Checks.INVALID);
        for (int slot : NOT_SLOTS) {
            checks.due("hullVertex(" + slot + ",0,0)", planner.hullVertex(slot, 0, 0), Checks.INVALID);
        }
    }

    private static void extent() {
        NestingPlanner planner = Checks.with(TRIANGLE, "-2,-3-1,-3-2,-1;" + "-5,-5-4,-5-5,-4;");
        int[] due = {3, 3, 1, 1, 0, 0, 0, 3};
        int[] dueOfTwo = {-1, -3, -1, 1, 5, 10, 5, 2};
        for (int direction = 0; direction < 8; direction++) {
            checks.due("extent(0," + direction + ")", planner.extent(0, direction), due[direction]);
            checks.due("extent(1," + direction + ")", planner.extent(1, direction), dueOfTwo[direction]);
        }
        Checks.load(planner, 2, "0,-33,00,0;");
        planner.copyShape(2, 2, 1);
        checks.due("extent(2,1)", planner.extent(2, 1), 3);
        checks.due("extent(2,5)", planner.extent(2, 5), 0);
        checks.due("extent(0,8)", planner.extent(0, 8), Checks.INVALID);
        checks.due("extent(0,-1)", planner.extent(0, -1), Checks.INVALID);
        checks.due("extent(3,0)", planner.extent(3, 0), Checks.ILLEGAL);
        checks.due("extent(3,8)", planner.extent(3, 8), Checks.INVALID);
        for (int slot : NOT_SLOTS) {
            checks.due("extent(" + slot + ",0)", planner.extent(slot, 0), Checks.INVALID);
        }
    }

    private static void sumSize() {
        NestingPlanner planner = Checks.with(SQUARE + TRIANGLE + HEXAGON, OBLIQUE);
        checks.due("square and square", planner.sumSize(0, 0, 0, 0, 0), 4);
        checks.due("square and triangle", planner.sumSize(0, 0, 0, 0, 1), 5);
        checks.due("triangle and itself", planner.sumSize(0, 0, 1, 0, 1), 3);
        checks.due("triangle and minus itself", planner.sumSize(1, 0, 1, 0, 1), 6);
        checks.due("hexagon and itself", planner.sumSize(0, 0, 2, 0, 2), 6);
        checks.due("hexagon and minus itself", planner.sumSize(1, 0, 2, 0, 2), 6);
        checks.due("hexagons", planner.sumSize(0, 0, 2, 1, 0), 12);
        checks.due("hexagons, no-fit", planner.sumSize(1, 0, 2, 1, 0), 12);
        checks.due("isNoFit 2", planner.sumSize(2, 0, 0, 0, 0), Checks.INVALID);
        checks.due("isNoFit -1", planner.sumSize(-1, 0, 0, 0, 0), Checks.INVALID);
        checks.due("no first piece", planner.sumSize(0, 0, 3, 0, 0), Checks.INVALID);
        checks.due("piece -1", planner.sumSize(0, 0, -1, 0, 0), Checks.INVALID);
        checks.due("no second piece", planner.sumSize(0, 0, 0, 1, 1), Checks.INVALID);
        checks.due("second piece -1", planner.sumSize(0, 0, 0, 1, -1), Checks.INVALID);
        checks.due("empty slot", planner.sumSize(0, 2, 0, 0, 0), Checks.INVALID);
        checks.due("second slot empty", planner.sumSize(0, 0, 0, 2, 0), Checks.INVALID);
        for (int slot : NOT_SLOTS) {
            checks.due("sumSize slot " + slot, planner.sumSize(0, slot, 0, 0, 0), Checks.INVALID);
            checks.due("sumSize second slot " + slot, planner.sumSize(0, 0, 0, slot, 0), Checks.INVALID);
        }
    }

    private static void vertices(String what, NestingPlanner planner, int isNoFit, int i, int j, int... due) {
        for (int k = 0; k < due.length; k++) {
            checks.due(what + ": sumVertex " + k, planner.sumVertex(isNoFit, 0, i, 1, j, k), due[k]);
        }
        checks.due(what + ": behind it", planner.sumVertex(isNoFit, 0, i, 1, j, due.length), Checks.NONE);
    }

    private static void sumVertex() {
        NestingPlanner planner = Checks.with(SQUARE + HEXAGON, TRIANGLE + OBLIQUE);
        vertices("square + triangle", planner, 0, 0, 0, 0, 5000, 5002, 2003, 3);
        vertices("square - triangle", planner, 1, 0, 0, -1, 1999, 2002, -2998, -3000);
        vertices("hexagons", planner, 0, 1, 1, 0, 1000, 3001, 4002, 5004, 5005, 4006, 3006, 1005, 4, -998, -999);
        vertices("hexagons, no-fit", planner, 1, 1, 1,
            -2004, -1004, 997, 1998, 3000, 3001, 2002, 1002, -999, -2000, -3002, -3003);
        checks.due("vertex -1", planner.sumVertex(0, 0, 0, 1, 0, -1), Checks.INVALID);
        checks.due("vertex min", planner.sumVertex(0, 0, 0, 1, 0, Integer.MIN_VALUE), Checks.INVALID);
        checks.due("vertex max", planner.sumVertex(0, 0, 0, 1, 0, Integer.MAX_VALUE), Checks.NONE);
        checks.due("isNoFit 2", planner.sumVertex(2, 0, 0, 1, 0, 99), Checks.INVALID);
        checks.due("isNoFit -1", planner.sumVertex(-1, 0, 0, 1, 0, 0), Checks.INVALID);
        checks.due("no first piece", planner.sumVertex(0, 0, 2, 1, 0, 0), Checks.INVALID);
        checks.due("no second piece", planner.sumVertex(0, 0, 0, 1, 2, 0), Checks.INVALID);
        checks.due("empty slot", planner.sumVertex(0, 2, 0, 1, 0, 0), Checks.INVALID);
        for (int slot : NOT_SLOTS) {
            checks.due("sumVertex slot " + slot, planner.sumVertex(0, slot, 0, 1, 0, 0), Checks.INVALID);
            checks.due("sumVertex second slot " + slot, planner.sumVertex(0, 0, 0, slot, 0, 0), Checks.INVALID);
        }
    }

    private static void sumDoubleArea() {
        NestingPlanner planner = Checks.with(SQUARE + TRIANGLE, "-9,-99,-99,9-9,9;");
        checks.due("square and square", planner.sumDoubleArea(0, 0, 0, 0), 32);
        checks.due("triangle and itself", planner.sumDoubleArea(0, 1, 0, 1), 12);
        // 8 + 3, and the square's sides along the triangle's: 2 * (2 * 3 + 2 * 1)
        checks.due("square and triangle", planner.sumDoubleArea(0, 0, 0, 1), 27);
        checks.due("greatest", planner.sumDoubleArea(1, 0, 1, 0), 2592);
        checks.due("no first piece", planner.sumDoubleArea(0, 2, 0, 0), Checks.INVALID);
        checks.due("no second piece", planner.sumDoubleArea(0, 0, 1, 1), Checks.INVALID);
        checks.due("piece -1", planner.sumDoubleArea(0, -1, 1, 0), Checks.INVALID);
        checks.due("empty slot", planner.sumDoubleArea(2, 0, 0, 0), Checks.INVALID);
        for (int slot : NOT_SLOTS) {
            checks.due("sumDoubleArea slot " + slot, planner.sumDoubleArea(slot, 0, 0, 0), Checks.INVALID);
            checks.due("sumDoubleArea second " + slot, planner.sumDoubleArea(0, 0, slot, 0), Checks.INVALID);
        }
    }
}
