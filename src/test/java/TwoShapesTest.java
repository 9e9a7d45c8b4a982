/** Promises 15 to 17: contact, squared gap and sliding distance of a fixed and a moved shape. */
final class TwoShapesTest {
    private static final Checks checks = new Checks();
    private static final int[] DX = {1, 1, 0, -1, -1, -1, 0, 1};
    private static final int[] DY = {0, 1, 1, 1, 0, -1, -1, -1};
    private static final int TRIANGLE = 0;
    private static final int SQUARE = 1;
    private static final int L = 2;
    private static final int EMPTY = 3;

    public static void main(String[] args) {
        contactOfTriangles();
        contactOfSquares();
        contactOfPieces();
        contactRefuses();
        squaredGap();
        squaredGapRefuses();
        slideOfTriangles();
        slideOfSquares();
        slideOfPieces();
        slideRefuses();
        checks.finish();
    }

    private static NestingPlanner shapes() {
        NestingPlanner planner = Checks.with("0,03,00,3;", "0,02,02,20,2;");
        Checks.load(planner, L, "0,03,03,10,1;0,01,01,30,3;");
        return planner;
    }

    private static void contacts(int a, int b, int due, int... places) {
        NestingPlanner planner = shapes();
        for (int k = 0; k < places.length; k += 2) {
            int x = places[k];
            int y = places[k + 1];
            String call = "contact(" + a + "," + b + "," + x + "," + y + ")";
            checks.due(call, planner.contact(a, b, x, y), due);
        }
    }

    private static void contactOfTriangles() {
        contacts(TRIANGLE, TRIANGLE, 0, 4, 0, 3, 3, 2, 2, 4, -3, 60, 60, -60, -60, -4, 0, -4, 3);
        contacts(TRIANGLE, TRIANGLE, 1, 3, 0, 1, 2, -3, 3, -3, 0, 0, -3, 3, -3, 0, 3, -1, -2, 3, -2);
        contacts(TRIANGLE, TRIANGLE, 2, 0, 0, 1, 1, -1, -1, 2, 0, 0, 2, -2, 2, 2, -2, 0, -2);
    }

    private static void contactOfSquares() {
        contacts(SQUARE, SQUARE, 0, 3, 0, 2, 3, -3, 0, 0, -3, -2, 3);
        contacts(SQUARE, SQUARE, 1, 2, 0, 2, 1, 2, 2, -2, -2, -2, 2, 0, -2, 1, 2);
        contacts(SQUARE, SQUARE, 2, 0, 0, 1, 1, -1, 1, 0, 1);
        // the fixed triangle and the moved square, and the other way round
        contacts(TRIANGLE, SQUARE, 1, 3, 0, 1, 2, 2, 1, -2, 3, 3, -2);
        contacts(TRIANGLE, SQUARE, 2, 1, 1, 2, -1, 2, 0);
        contacts(TRIANGLE, SQUARE, 0, 2, 2, 3, 1, 4, 0);
        contacts(SQUARE, TRIANGLE, 1, -1, -2, -3, 0, 2, 0, 2, -3);
        contacts(SQUARE, TRIANGLE, 2, -1, -1, 1, -2);
        contacts(SQUARE, TRIANGLE, 0, -2, -2, -4, 0);
    }

    /** The pieces decide, not the hull; the pair of pieces that are nearest decides. */
    private static void contactOfPieces() {
        contacts(L, SQUARE, 0, 2, 2, 4, 0, 2, 3);
        contacts(L, SQUARE, 1, 1, 1, 2, 1, 1, 3, 3, 1, 3, 0, -2, 3);
        contacts(L, SQUARE, 2, 0, 0, 1, 0, 0, 1, 2, 0, 0, 2);
        contacts(SQUARE, L, 1, -1, -1, 2, 0);
        contacts(SQUARE, L, 2, 0, -1, -1, 0);
    }

    private static void contactRefuses() {
        NestingPlanner planner = shapes();
        checks.due("a -1", planner.contact(-1, 0, 0, 0), Checks.INVALID);
        checks.due("a 4", planner.contact(4, 0, 0, 0), Checks.INVALID);
        checks.due("b -1", planner.contact(0, -1, 0, 0), Checks.INVALID);
        checks.due("b 4", planner.contact(0, 4, 0, 0), Checks.INVALID);
        checks.due("x 61", planner.contact(0, 0, 61, 0), Checks.INVALID);
        checks.due("x -61", planner.contact(0, 0, -61, 0), Checks.INVALID);
        checks.due("y 61", planner.contact(0, 0, 0, 61), Checks.INVALID);
        checks.due("y -61", planner.contact(0, 0, 0, -61), Checks.INVALID);
        checks.due("a empty", planner.contact(EMPTY, 0, 0, 0), Checks.ILLEGAL);
        checks.due("b empty", planner.contact(0, EMPTY, 0, 0), Checks.ILLEGAL);
        checks.due("a empty, y 61", planner.contact(EMPTY, 0, 0, 61), Checks.INVALID);
        checks.due("corner", planner.contact(0, 0, 60, -60), 0);
    }

    private static void gap(int a, int b, int x, int y, int above, int below) {
        NestingPlanner planner = shapes();
        String call = "squaredGap(" + a + "," + b + "," + x + "," + y + ")";
        checks.due(call + " above", planner.squaredGap(a, b, x, y, 0), above);
        checks.due(call + " below", planner.squaredGap(a, b, x, y, 1), below);
    }

    private static void squaredGap() {
        gap(TRIANGLE, TRIANGLE, 4, 0, 1, 1);
        gap(TRIANGLE, TRIANGLE, 3, 3, 9, 2);
        gap(TRIANGLE, TRIANGLE, 2, 2, 1, 2);
        // 4 / 2 in lowest terms
        gap(TRIANGLE, TRIANGLE, 3, 2, 2, 1);
        gap(TRIANGLE, TRIANGLE, 60, 60, 13689, 2);
        gap(TRIANGLE, TRIANGLE, -60, -60, 13689, 2);
        gap(TRIANGLE, TRIANGLE, 60, -60, 57 * 57 * 2, 1);
        gap(SQUARE, SQUARE, 5, 6, 25, 1);
        gap(SQUARE, SQUARE, 4, -1, 4, 1);
        gap(SQUARE, SQUARE, -5, -6, 25, 1);
        gap(L, SQUARE, 2, 2, 1, 1);
        gap(L, SQUARE, 3, 2, 1, 1);
        gap(SQUARE, L, -2, -3, 1, 1);
        // they touch or overlap
        gap(TRIANGLE, TRIANGLE, 3, 0, 0, 1);
        gap(TRIANGLE, TRIANGLE, 1, 2, 0, 1);
        gap(TRIANGLE, TRIANGLE, 1, 1, 0, 1);
        gap(L, SQUARE, 1, 1, 0, 1);
        gap(L, SQUARE, 1, 0, 0, 1);
        NestingPlanner planner = Checks.with("0,04,00,3;", "0,02,02,20,2;");
        checks.due("slanted above", planner.squaredGap(0, 1, 3, 3, 0), 81);
        checks.due("slanted below", planner.squaredGap(0, 1, 3, 3, 1), 25);
    }

    private static void squaredGapRefuses() {
        NestingPlanner planner = shapes();
        checks.due("a -1", planner.squaredGap(-1, 0, 0, 0, 0), Checks.INVALID);
        checks.due("a 4", planner.squaredGap(4, 0, 0, 0, 0), Checks.INVALID);
        checks.due("b -1", planner.squaredGap(0, -1, 0, 0, 0), Checks.INVALID);
        checks.due("b 4", planner.squaredGap(0, 4, 0, 0, 0), Checks.INVALID);
        checks.due("x 61", planner.squaredGap(0, 0, 61, 0, 0), Checks.INVALID);
        checks.due("x -61", planner.squaredGap(0, 0, -61, 0, 0), Checks.INVALID);
        checks.due("y 61", planner.squaredGap(0, 0, 0, 61, 0), Checks.INVALID);
        checks.due("y -61", planner.squaredGap(0, 0, 0, -61, 0), Checks.INVALID);
        checks.due("part 2", planner.squaredGap(0, 0, 0, 0, 2), Checks.INVALID);
        checks.due("part -1", planner.squaredGap(0, 0, 0, 0, -1), Checks.INVALID);
        checks.due("a empty", planner.squaredGap(EMPTY, 0, 0, 0, 0), Checks.ILLEGAL);
        checks.due("b empty", planner.squaredGap(0, EMPTY, 0, 0, 0), Checks.ILLEGAL);
        checks.due("b empty, part 2", planner.squaredGap(0, EMPTY, 0, 0, 2), Checks.INVALID);
    }

    private static void slides(int a, int b, int x, int y, int direction, int above, int below) {
        NestingPlanner planner = shapes();
        String call = "slide(" + a + "," + b + "," + x + "," + y + "," + direction + ")";
        checks.due(call + " above", planner.slide(a, b, x, y, direction, 0), above);
        checks.due(call + " below", planner.slide(a, b, x, y, direction, 1), below);
    }

    private static void free(int a, int b, int x, int y, int direction) {
        slides(a, b, x, y, direction, Checks.NONE, Checks.NONE);
    }

    private static void slideOfTriangles() {
        slides(TRIANGLE, TRIANGLE, 9, 0, 4, 6, 1);
        slides(TRIANGLE, TRIANGLE, 3, 3, 5, 3, 2);
        slides(TRIANGLE, TRIANGLE, 2, 2, 5, 1, 2);
        // 2 / 2 in lowest terms
        slides(TRIANGLE, TRIANGLE, 4, 1, 5, 1, 1);
        free(TRIANGLE, TRIANGLE, 9, 0, 0);
        free(TRIANGLE, TRIANGLE, 9, 0, 2);
        // they touch and it moves in, away, and along
        slides(TRIANGLE, TRIANGLE, 3, 0, 4, 0, 1);
        slides(TRIANGLE, TRIANGLE, 1, 2, 5, 0, 1);
        slides(TRIANGLE, TRIANGLE, 1, 2, 6, 0, 1);
        free(TRIANGLE, TRIANGLE, 3, 0, 0);
        free(TRIANGLE, TRIANGLE, 1, 2, 3);
        free(TRIANGLE, TRIANGLE, 1, 2, 7);
        free(TRIANGLE, TRIANGLE, 1, 2, 1);
        NestingPlanner planner = Checks.with("0,04,00,3;", "0,02,02,20,2;");
        Checks.load(planner, 2, "0,01,00,1;");
        checks.due("a vertex moves in", planner.slide(2, 2, 0, -1, 1, 0), 0);
        checks.due("a vertex moves in, below", planner.slide(2, 2, 0, -1, 1, 1), 1);
        checks.due("unit triangles", planner.slide(2, 2, 3, 0, 4, 0), 2);
        checks.due("unit triangles, above", planner.slide(2, 2, 3, 1, 4, 0), Checks.NONE);
        checks.due("unit triangles, across", planner.slide(2, 2, 1, 1, 5, 0), 1);
        checks.due("unit triangles, across, below", planner.slide(2, 2, 1, 1, 5, 1), 2);
        checks.due("slanted above", planner.slide(0, 1, 3, 3, 5, 0), 9);
        checks.due("slanted below", planner.slide(0, 1, 3, 3, 5, 1), 7);
    }

    private static void slideOfSquares() {
        for (int direction = 0; direction < 8; direction++) {
            int x = 6 * DX[direction];
            int y = 6 * DY[direction];
            slides(SQUARE, SQUARE, -x, -y, direction, 4, 1);
            free(SQUARE, SQUARE, x, y, direction);
        }
        slides(SQUARE, SQUARE, 60, 1, 4, 58, 1);
        slides(SQUARE, SQUARE, 4, -1, 3, 2, 1);
        slides(SQUARE, SQUARE, 1, -5, 2, 3, 1);
        // along an edge, and over a corner
        free(SQUARE, SQUARE, 2, -5, 2);
        free(SQUARE, SQUARE, -2, -5, 2);
        free(SQUARE, SQUARE, 4, 0, 3);
        free(SQUARE, SQUARE, 2, 2, 3);
    }

    private static void slideOfPieces() {
        slides(L, SQUARE, 1, 5, 6, 4, 1);
        slides(L, SQUARE, 0, 5, 6, 2, 1);
        slides(L, SQUARE, 4, 4, 5, 3, 1);
        slides(L, SQUARE, 9, 1, 4, 8, 1);
        slides(L, SQUARE, 9, 0, 4, 6, 1);
        slides(SQUARE, L, -5, -5, 1, 4, 1);
        free(L, SQUARE, 1, 1, 1);
        free(L, SQUARE, 1, 1, 0);
    }

    private static void slideRefuses() {
        NestingPlanner planner = shapes();
        checks.due("a -1", planner.slide(-1, 0, 9, 0, 4, 0), Checks.INVALID);
        checks.due("a 4", planner.slide(4, 0, 9, 0, 4, 0), Checks.INVALID);
        checks.due("b -1", planner.slide(0, -1, 9, 0, 4, 0), Checks.INVALID);
        checks.due("b 4", planner.slide(0, 4, 9, 0, 4, 0), Checks.INVALID);
        checks.due("x 61", planner.slide(0, 0, 61, 0, 4, 0), Checks.INVALID);
        checks.due("x -61", planner.slide(0, 0, -61, 0, 4, 0), Checks.INVALID);
        checks.due("y 61", planner.slide(0, 0, 9, 61, 4, 0), Checks.INVALID);
        checks.due("y -61", planner.slide(0, 0, 9, -61, 4, 0), Checks.INVALID);
        checks.due("direction 8", planner.slide(0, 0, 9, 0, 8, 0), Checks.INVALID);
        checks.due("direction -1", planner.slide(0, 0, 9, 0, -1, 0), Checks.INVALID);
        checks.due("part 2", planner.slide(0, 0, 9, 0, 4, 2), Checks.INVALID);
        checks.due("part -1", planner.slide(0, 0, 9, 0, 4, -1), Checks.INVALID);
        checks.due("a empty", planner.slide(EMPTY, 0, 9, 0, 4, 0), Checks.ILLEGAL);
        checks.due("b empty", planner.slide(0, EMPTY, 9, 0, 4, 0), Checks.ILLEGAL);
        checks.due("b empty, part 2", planner.slide(0, EMPTY, 9, 0, 4, 2), Checks.INVALID);
        checks.due("they overlap", planner.slide(0, 0, 1, 1, 1, 0), Checks.ILLEGAL);
        checks.due("they overlap, below", planner.slide(0, 0, 0, 0, 4, 1), Checks.ILLEGAL);
        checks.due("they overlap, part 2", planner.slide(0, 0, 0, 0, 4, 2), Checks.INVALID);
    }
}
