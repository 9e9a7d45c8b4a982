/**
 * Boundary cases of sums and no-fit polygons: promises 12 to 14. Above each test stands the sentence
 * of the document that it is for.
 */
final class SumBoundaryTest {
    private static final Checks checks = new Checks();
    private static final Boundary boundary = new Boundary(checks);
    private static final String WIDEST = "-9,-99,-99,9-9,9;";
    private static final String HEXAGON = "0,01,02,12,21,20,1;";
    /** None of its edges is parallel to one of the other hexagon. */
    private static final String OBLIQUE = "0,02,13,32,40,3-1,1;";

    public static void main(String[] args) {
        sumSizeArguments();
        sumVertexArguments();
        sumDoubleAreaArguments();
        noSuchPiece();
        vertexBehindTheLast();
        errorsInOrder();
        leastAndGreatestSize();
        parallelEdgesAreOne();
        beginsLowestThenLeft();
        farthestVertices();
        leastAndGreatestArea();
        noFitTellsOfCommonPoints();
        checks.finish();
    }

    /** What sumSize and sumVertex refuse alike, with the piece 0 of slot 2 and the piece 0 of slot 1. */
    private static void refusesArguments(Boundary.Asked sum, int firstIndex) {
        sum.refusesBeyond(firstIndex, 0, 3);
        sum.refusesBeyond(firstIndex + 1, 0, 2);
        sum.refusesBeyond(firstIndex + 2, 0, 3);
        sum.refusesBeyond(firstIndex + 3, 0, 0);
    }

    // ---- arguments

    /** "isNoFit: 0 .., 1 .."; "INVALID_ARGUMENT if isNoFit is neither 0 nor 1, or there is no such slot or piece". */
    private static void sumSizeArguments() {
        Boundary.Asked sum = boundary.ask("sumSize", Boundary::busy,
            (planner, a) -> planner.sumSize(a[0], a[1], a[2], a[3], a[4]), 0, 2, 0, 1, 0);
        sum.takes(0, 0, 5);
        sum.takes(0, 1, 5);
        sum.refusesBeyond(0, 0, 1);
        sum.takes(1, 0, 5);
        sum.takes(1, 3, 5);
        sum.takes(2, 2, 3);
        sum.takes(3, 0, 4);
        sum.takes(3, 3, 4);
        refusesArguments(sum, 1);
        Boundary.Asked second = boundary.ask("sumSize", Boundary::busy,
            (planner, a) -> planner.sumSize(a[0], a[1], a[2], a[3], a[4]), 1, 1, 0, 2, 0);
        second.takes(4, 0, 5);
        second.takes(4, 2, 6);
        second.refusesBeyond(4, 0, 2);
    }

    /** The same of sumVertex; "or vertex is negative". */
    private static void sumVertexArguments() {
        Boundary.Asked sum = boundary.ask("sumVertex", Boundary::busy,
            (planner, a) -> planner.sumVertex(a[0], a[1], a[2], a[3], a[4], a[5]), 0, 2, 0, 1, 0, 1);
        sum.takes(0, 0, 6000);
        sum.takes(0, 1, 3000 - 3);
        sum.refusesBeyond(0, 0, 1);
        sum.takes(1, 0, 5000);
        sum.takes(1, 3, 4000);
        sum.takes(2, 2, 6002);
        sum.takes(3, 0, 5000);
        sum.takes(3, 3, 4000);
        refusesArguments(sum, 1);
        sum.takes(5, 0, 0);
        sum.refuses(5, -1, Checks.INVALID);
        sum.refuses(5, Integer.MIN_VALUE, Checks.INVALID);
        Boundary.Asked second = boundary.ask("sumVertex", Boundary::busy,
            (planner, a) -> planner.sumVertex(a[0], a[1], a[2], a[3], a[4], a[5]), 0, 1, 0, 2, 0, 1);
        second.takes(4, 0, 6000);
        second.takes(4, 2, 6002);
        second.refusesBeyond(4, 0, 2);
    }

    /** The same of sumDoubleArea. */
    private static void sumDoubleAreaArguments() {
        Boundary.Asked sum = boundary.ask("sumDoubleArea", Boundary::busy,
            (planner, a) -> planner.sumDoubleArea(a[0], a[1], a[2], a[3]), 2, 0, 1, 0);
        sum.takes(0, 0, 8 + 9 + 2 * (2 * 3 + 2 * 3));
        sum.takes(0, 3, 2 + 9 + 2 * (1 * 3 + 1 * 3));
        sum.takes(1, 2, 16);
        sum.takes(2, 0, 6 + 8 + 2 * (3 * 2 + 1 * 2));
        sum.takes(2, 3, 6 + 2 + 2 * (3 * 1 + 1 * 1));
        refusesArguments(sum, 0);
        Boundary.Asked second = boundary.ask("sumDoubleArea", Boundary::busy,
            (planner, a) -> planner.sumDoubleArea(a[0], a[1], a[2], a[3]), 1, 0, 2, 2);
        second.takes(3, 2, 16);
        second.refusesBeyond(3, 0, 2);
    }

    /** "there is no such slot or piece": an empty slot has none, and that is no ILLEGAL_STATE. */
    private static void noSuchPiece() {
        for (int slot = 0; slot < 4; slot++) {
            int empty = slot;
            int other = slot == 0 ? 1 : 0;
            boundary.refused("sumSize, first slot empty", Boundary.lacking(slot),
                planner -> planner.sumSize(0, empty, 0, other, 0), Checks.INVALID);
            boundary.refused("sumSize, second slot empty", Boundary.lacking(slot),
                planner -> planner.sumSize(1, other, 0, empty, 0), Checks.INVALID);
            boundary.refused("sumVertex, first slot empty", Boundary.lacking(slot),
                planner -> planner.sumVertex(0, empty, 0, other, 0, 0), Checks.INVALID);
            boundary.refused("sumVertex, second slot empty", Boundary.lacking(slot),
                planner -> planner.sumVertex(1, other, 0, empty, 0, 0), Checks.INVALID);
            boundary.refused("sumDoubleArea, first slot empty", Boundary.lacking(slot),
                planner -> planner.sumDoubleArea(empty, 0, other, 0), Checks.INVALID);
            boundary.refused("sumDoubleArea, second slot empty", Boundary.lacking(slot),
                planner -> planner.sumDoubleArea(other, 0, empty, 0), Checks.INVALID);
        }
    }

    /** "NONE if there is no such vertex". */
    private static void vertexBehindTheLast() {
        Boundary.Asked sum = boundary.ask("sumVertex", Boundary::busy,
            (planner, a) -> planner.sumVertex(a[0], a[1], a[2], a[3], a[4], a[5]), 0, 0, 0, 1, 0, 0);
        sum.takes(5, 4, 5);
        sum.refuses(5, 5, Checks.NONE);
        sum.refuses(5, 6, Checks.NONE);
        sum.refuses(5, Integer.MAX_VALUE, Checks.NONE);
        Boundary.Asked three = boundary.ask("sumVertex of 3", Boundary::busy,
            (planner, a) -> planner.sumVertex(a[0], a[1], a[2], a[3], a[4], a[5]), 0, 1, 0, 1, 0, 0);
        three.takes(5, 2, 6);
        three.refuses(5, 3, Checks.NONE);
        NestingPlanner twelve = Checks.with(HEXAGON, OBLIQUE);
        checks.due("sumVertex 11 of 12", twelve.sumVertex(0, 0, 0, 1, 0, 11), -999);
        checks.due("sumVertex 12 of 12", twelve.sumVertex(0, 0, 0, 1, 0, 12), Checks.NONE);
    }

    /** INVALID_ARGUMENT before NONE. */
    private static void errorsInOrder() {
        boundary.refused("isNoFit 2, vertex 99", Boundary::busy, planner -> planner.sumVertex(2, 0, 0, 1, 0, 99),
            Checks.INVALID);
        boundary.refused("no piece, vertex 99", Boundary::busy, planner -> planner.sumVertex(0, 0, 1, 1, 0, 99),
            Checks.INVALID);
        boundary.refused("no slot, vertex 99", Boundary::busy, planner -> planner.sumVertex(0, 0, 0, 4, 0, 99),
            Checks.INVALID);
    }

    // ---- the polygons

    private static void sum(String what, NestingPlanner planner, int isNoFit, int... due) {
        checks.due(what + ": sumSize", planner.sumSize(isNoFit, 0, 0, 1, 0), due.length);
        for (int k = 0; k < due.length; k++) {
            checks.due(what + ": sumVertex " + k, planner.sumVertex(isNoFit, 0, 0, 1, 0, k), due[k]);
        }
        checks.due(what + ": behind it", planner.sumVertex(isNoFit, 0, 0, 1, 0, due.length), Checks.NONE);
    }

    /** 3 vertices, if all edges are parallel, to 12, if none are. */
    private static void leastAndGreatestSize() {
        sum("3 and 3, parallel", Checks.with("0,03,00,3;", "1,12,11,2;"), 0, 1001, 5001, 1005);
        sum("3 and 3, oblique", Checks.with("0,03,00,3;", "0,02,11,3;"), 0, 0, 3000, 5001, 4003, 1006, 3);
        sum("3 and -3", Checks.with("0,03,00,3;", "0,01,00,1;"), 1, -1, 2999, 3000, 3, -997, -1000);
        // whichever of the two has more vertices
        int[] nine = {0, 4000, 6001, 7003, 6005, 5006, 3005, 3, -999};
        sum("3 and 6, oblique", Checks.with("0,04,03,2;", OBLIQUE), 0, nine);
        sum("6 and 3, oblique", Checks.with(OBLIQUE, "0,04,03,2;"), 0, nine);
        NestingPlanner six = Checks.with(HEXAGON, OBLIQUE);
        checks.due("6 and 6", six.sumSize(0, 0, 0, 1, 0), 12);
        checks.due("6 and -6", six.sumSize(1, 0, 0, 1, 0), 12);
        checks.due("6 and itself", six.sumSize(0, 0, 0, 0, 0), 6);
        checks.due("6 and minus itself", six.sumSize(1, 0, 0, 0, 0), 6);
    }

    /** "The vertices .. are those at which the boundary turns strictly to the left". */
    private static void parallelEdgesAreOne() {
        sum("squares", Checks.with("0,02,02,20,2;", "1,12,12,21,2;"), 0, 1001, 4001, 4004, 1004);
        sum("squares, no-fit", Checks.with("0,02,02,20,2;", "1,12,12,21,2;"), 1, -2002, 998, 1001, -1999);
        // one edge alone is parallel, and it is the first, a middle or the last one
        sum("the first edge", Checks.with("0,02,01,2;", "0,01,00,1;"), 0, 0, 3000, 2002, 1003, 1);
        sum("the last edge", Checks.with("0,02,00,2;", "0,02,10,1;"), 0, 0, 2000, 4001, 2003, 3);
    }

    /** "beginning with the lowest vertex, of two lowest ones the left one". */
    private static void beginsLowestThenLeft() {
        sum("two lowest", Checks.with("2,20,20,02,0;", "1,10,10,01,0;"), 0, 0, 3000, 3003, 3);
        sum("one lowest", Checks.with("0,22,01,3;", "0,03,00,3;"), 0, 2000, 5000, 4003, 1006, 5, 2);
        // minus the second one has its two lowest vertices where the second one has its two greatest
        sum("no-fit, two lowest", Checks.with("2,20,20,02,0;", "1,10,10,01,0;"), 1, -1001, 1999, 2002, -998);
        sum("no-fit, lowest at the top", Checks.with("0,02,00,2;", "0,03,01,3;"), 1,
            -1003, 997, 2000, 2, -2998, -3000);
    }

    /** "Returns 1000 * x + y": also for coordinates below 0, down to -18 and up to 18. */
    private static void farthestVertices() {
        int[] due = {-18018, 17982, 18018, -17982};
        sum("the widest", Checks.with(WIDEST, WIDEST), 0, due);
        sum("the widest, no-fit", Checks.with(WIDEST, WIDEST), 1, due);
        sum("left of and below 0", Checks.with("0,01,00,1;", "-3,-2-2,-2-3,-1;"), 0, -3002, -1002, -3000);
    }

    /** The least area, of unit triangles, and the greatest, 36 by 36. */
    private static void leastAndGreatestArea() {
        checks.due("the least", Checks.with("0,01,00,1;").sumDoubleArea(0, 0, 0, 0), 4);
        checks.due("the greatest", Checks.with(WIDEST).sumDoubleArea(0, 0, 0, 0), 2 * 36 * 36);
        checks.due("hexagons", Checks.with(HEXAGON, OBLIQUE).sumDoubleArea(0, 0, 1, 0),
            Checks.with(HEXAGON, OBLIQUE).sumDoubleArea(1, 0, 0, 0));
    }

    /** "a point in common exactly if t is in the no-fit polygon, .. interiors .. in its interior". */
    private static void noFitTellsOfCommonPoints() {
        NestingPlanner planner = Checks.with(HEXAGON, OBLIQUE);
        int[] polygon = new int[planner.sumSize(1, 0, 0, 1, 0)];
        for (int k = 0; k < polygon.length; k++) {
            polygon[k] = planner.sumVertex(1, 0, 0, 1, 0, k);
        }
        int[] seen = new int[3];
        for (int x = -6; x <= 6; x++) {
            for (int y = -6; y <= 6; y++) {
                int due = located(polygon, x, y);
                checks.due("contact(0,1," + x + "," + y + ")", planner.contact(0, 1, x, y), due);
                seen[due]++;
            }
        }
        checks.due("all three were seen", Math.min(seen[0], Math.min(seen[1], seen[2])) > 0 ? 1 : 0, 1);
    }

    /** 0 outside, 1 on the boundary, 2 in the interior. */
    private static int located(int[] polygon, int x, int y) {
        int result = 2;
        for (int k = 0; k < polygon.length; k++) {
            int from = polygon[k];
            int to = polygon[(k + 1) % polygon.length];
            int side = (x(to) - x(from)) * (y - y(from)) - (y(to) - y(from)) * (x - x(from));
            result = Math.min(result, Integer.signum(side) + 1);
        }
        return result;
    }

    private static int x(int vertex) {
        return Math.floorDiv(vertex + 500, 1000);
    }

    private static int y(int vertex) {
        return vertex - 1000 * x(vertex);
    }
}
