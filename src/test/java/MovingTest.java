/** Promises 24 to 26: items that are slid, compacted and removed. */
final class MovingTest {
    private static final Checks checks = new Checks();
    private static final String TRIANGLE = "0,03,00,3;";
    private static final String SQUARE = "0,02,02,20,2;";

    public static void main(String[] args) {
        slideItemToTheWall();
        slideItemToAnItem();
        slideItemStepByStep();
        slideItemRefuses();
        compact();
        compactInRounds();
        compactKeepsTheClearance();
        removeItem();
        checks.finish();
    }

    private static void at(String what, NestingPlanner planner, int item, int x, int y) {
        checks.due(what + ": x of " + item, planner.itemPlace(item, 0), x);
        checks.due(what + ": y of " + item, planner.itemPlace(item, 1), y);
    }

    private static NestingPlanner layout(String text) {
        NestingPlanner planner = Checks.with(SQUARE, TRIANGLE);
        if (Checks.layout(planner, text) < 0) {
            throw new IllegalStateException("no layout: " + text);
        }
        return planner;
    }

    private static void slideItemToTheWall() {
        int[] steps = {11, 9, 9, 7, 7, 7, 9, 9};
        int[] xs = {18, 16, 7, 0, 0, 0, 7, 16};
        int[] ys = {9, 18, 18, 16, 9, 2, 0, 0};
        for (int direction = 0; direction < 8; direction++) {
            NestingPlanner planner = layout("0@7,9;");
            String what = "slideItem(0," + direction + ")";
            checks.due(what, planner.slideItem(0, direction), steps[direction]);
            at(what, planner, 0, xs[direction], ys[direction]);
            checks.due(what + " again", planner.slideItem(0, direction), Checks.NONE);
        }
    }

    private static void slideItemToAnItem() {
        NestingPlanner planner = layout("0@0,0;0@10,1;0@10,9;");
        checks.due("to the left", planner.slideItem(1, 4), 8);
        at("to the left", planner, 1, 2, 1);
        at("the other stays", planner, 0, 0, 0);
        checks.due("again", planner.slideItem(1, 4), Checks.NONE);
        checks.due("down", planner.slideItem(2, 6), 9);
        NestingPlanner clear = layout("0@0,0;0@10,0;");
        clear.setClearance(2);
        checks.due("with clearance", clear.slideItem(1, 4), 6);
        at("with clearance", clear, 1, 4, 0);
    }

    private static void slideItemStepByStep() {
        // they would touch half a step further
        NestingPlanner triangles = layout("1@0,0;1@3,3;");
        checks.due("half a step is left", triangles.slideItem(1, 5), 1);
        at("half a step is left", triangles, 1, 2, 2);
        checks.due("half a step is left, again", triangles.slideItem(1, 5), Checks.NONE);
        // past a corner
        NestingPlanner squares = layout("0@10,10;0@14,10;");
        checks.due("past a corner", squares.slideItem(1, 3), 8);
        at("past a corner", squares, 1, 6, 18);
    }

    private static void slideItemRefuses() {
        NestingPlanner planner = layout("0@5,5;");
        checks.due("item 1", planner.slideItem(1, 0), Checks.INVALID);
        checks.due("item -1", planner.slideItem(-1, 0), Checks.INVALID);
        checks.due("item max", planner.slideItem(Integer.MAX_VALUE, 0), Checks.INVALID);
        checks.due("direction 8", planner.slideItem(0, 8), Checks.INVALID);
        checks.due("direction -1", planner.slideItem(0, -1), Checks.INVALID);
        at("after errors", planner, 0, 5, 5);
    }

    private static void compact() {
        NestingPlanner planner = layout("");
        checks.due("no items", planner.compact(), Checks.NONE);
        planner = layout("0@5,7;");
        checks.due("one item", planner.compact(), 12);
        at("one item", planner, 0, 0, 0);
        checks.due("again", planner.compact(), Checks.NONE);
        // down comes before left: it would otherwise stay above the square
        planner = layout("0@0,0;0@4,5;");
        checks.due("down, then left", planner.compact(), 7);
        at("down, then left", planner, 1, 2, 0);
    }

    private static void compactInRounds() {
        NestingPlanner planner = layout("0@5,5;0@5,1;");
        checks.due("compact()", planner.compact(), 14);
        at("compact", planner, 0, 0, 2);
        at("compact", planner, 1, 0, 0);
        checks.due("again", planner.compact(), Checks.NONE);
        // in the second round item 0 falls further, as item 1 has gone down and to the left
        planner = layout("0@9,9;0@8,3;");
        checks.due("compact()", planner.compact(), 18 + 11 - 2);
        at("compact", planner, 0, 0, 2);
        at("compact", planner, 1, 0, 0);
    }

    private static void compactKeepsTheClearance() {
        NestingPlanner planner = layout("0@0,0;0@9,0;0@9,9;");
        planner.setClearance(1);
        checks.due("compact()", planner.compact(), 6 + 9 + 6 - 3);
        at("compact", planner, 0, 0, 0);
        at("compact", planner, 1, 3, 0);
        at("compact", planner, 2, 6, 0);
        checks.due("setClearance(2)", planner.setClearance(2), Checks.ILLEGAL);
    }

    private static void removeItem() {
        NestingPlanner planner = layout("0@0,0;1@4,0;0@8,0;1@12,0;");
        checks.due("removeItem(-1)", planner.removeItem(-1), Checks.INVALID);
        checks.due("removeItem(4)", planner.removeItem(4), Checks.INVALID);
        checks.due("removeItem(1)", planner.removeItem(1), 3);
        at("removeItem(1)", planner, 0, 0, 0);
        at("removeItem(1)", planner, 1, 8, 0);
        at("removeItem(1)", planner, 2, 12, 0);
        checks.due("their areas", planner.packedDoubleArea(), 8 + 8 + 9);
        checks.due("removeItem(2)", planner.removeItem(2), 2);
        checks.due("removeItem(0)", planner.removeItem(0), 1);
        at("the last one", planner, 0, 8, 0);
        checks.due("removeItem(1)", planner.removeItem(1), Checks.INVALID);
        checks.due("removeItem(0)", planner.removeItem(0), 0);
        checks.due("removeItem(0)", planner.removeItem(0), Checks.INVALID);
    }
}
