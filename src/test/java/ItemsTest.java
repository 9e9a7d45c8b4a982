/** Promises 27, 28 and 30 to 37: what is asked of the items. */
final class ItemsTest {
    private static final Checks checks = new Checks();
    private static final String TRIANGLE = "0,03,00,3;";
    private static final String SQUARE = "0,02,02,20,2;";
    private static final String L = "0,03,03,10,1;0,01,01,30,3;";
    /** Open to the right. */
    private static final String C = "0,05,05,10,1;0,01,01,50,5;0,45,45,50,5;";
    private static final int[] NOT_ITEMS = {-1, 2, 8, Integer.MIN_VALUE, Integer.MAX_VALUE};

    public static void main(String[] args) {
        itemCountAndPlace();
        itemGap();
        closestPair();
        itemAt();
        escapes();
        escapesOnlyItems();
        removalOrder();
        removalOrderEnds();
        packedDoubleArea();
        boundingBox();
        touchingPairs();
        checks.finish();
    }

    /** Items of a square (slot 0), a triangle (1), an L (2) and a C (3). */
    private static NestingPlanner layout(String text) {
        NestingPlanner planner = Checks.with(SQUARE, TRIANGLE);
        Checks.load(planner, 2, L);
        Checks.load(planner, 3, C);
        if (Checks.layout(planner, text) < 0) {
            throw new IllegalStateException("no layout: " + text);
        }
        return planner;
    }

    private static void itemCountAndPlace() {
        NestingPlanner planner = layout("0@3,4;1@10,11;");
        checks.due("itemCount()", planner.itemCount(), 2);
        checks.due("itemPlace(0,0)", planner.itemPlace(0, 0), 3);
        checks.due("itemPlace(0,1)", planner.itemPlace(0, 1), 4);
        checks.due("itemPlace(1,0)", planner.itemPlace(1, 0), 10);
        checks.due("itemPlace(1,1)", planner.itemPlace(1, 1), 11);
        checks.due("itemPlace(0,2)", planner.itemPlace(0, 2), Checks.INVALID);
        checks.due("itemPlace(0,-1)", planner.itemPlace(0, -1), Checks.INVALID);
        for (int item : NOT_ITEMS) {
            checks.due("itemPlace(" + item + ",0)", planner.itemPlace(item, 0), Checks.INVALID);
        }
        checks.due("no items", layout("").itemPlace(0, 0), Checks.INVALID);
        checks.due("no items", layout("").itemCount(), 0);
    }

    private static void gap(String text, int above, int below) {
        NestingPlanner planner = layout(text);
        checks.due("itemGap(0,1,0) of " + text, planner.itemGap(0, 1, 0), above);
        checks.due("itemGap(0,1,1) of " + text, planner.itemGap(0, 1, 1), below);
        checks.due("itemGap(1,0,0) of " + text, planner.itemGap(1, 0, 0), above);
        checks.due("itemGap(1,0,1) of " + text, planner.itemGap(1, 0, 1), below);
    }

    private static void itemGap() {
        gap("0@1,1;0@6,7;", 25, 1);
        gap("1@2,2;1@5,5;", 9, 2);
        gap("1@2,2;1@5,4;", 2, 1);
        gap("2@1,1;0@3,3;", 1, 1);
        gap("0@1,1;0@3,3;", 0, 1);
        gap("0@0,0;0@18,18;", 512, 1);
        NestingPlanner planner = layout("0@1,1;0@6,7;");
        checks.due("the same item", planner.itemGap(1, 1, 0), Checks.INVALID);
        checks.due("part 2", planner.itemGap(0, 1, 2), Checks.INVALID);
        checks.due("part -1", planner.itemGap(0, 1, -1), Checks.INVALID);
        for (int item : NOT_ITEMS) {
            checks.due("itemGap(" + item + ",0,0)", planner.itemGap(item, 0, 0), Checks.INVALID);
            checks.due("itemGap(0," + item + ",0)", planner.itemGap(0, item, 0), Checks.INVALID);
        }
        planner.setClearance(3);
        checks.due("the clearance does not matter", planner.itemGap(0, 1, 0), 25);
    }

    private static void closestPair() {
        checks.due("no items", layout("").closestPair(), Checks.NONE);
        checks.due("one item", layout("0@0,0;").closestPair(), Checks.NONE);
        checks.due("two items", layout("0@0,0;0@18,18;").closestPair(), 1);
        checks.due("items 0 and 2", layout("0@0,0;0@10,0;0@3,0;").closestPair(), 2);
        checks.due("items 1 and 2", layout("0@0,0;0@10,0;0@13,0;").closestPair(), 12);
        checks.due("02 and 13", layout("0@0,0;0@10,10;0@4,0;0@10,14;").closestPair(), 2);
        checks.due("03 and 12", layout("0@0,0;0@10,10;0@10,14;0@4,0;").closestPair(), 3);
        checks.due("01 and 02", layout("0@6,6;0@10,6;0@2,6;").closestPair(), 1);
        checks.due("12 and 13", layout("0@18,18;0@6,6;0@9,6;0@3,6;").closestPair(), 12);
        // 1/2 is less than 1
        checks.due("a fraction", layout("0@0,0;0@3,0;1@10,10;1@12,12;").closestPair(), 23);
        checks.due("all touch", layout("0@0,0;0@2,0;0@0,2;").closestPair(), 1);
        NestingPlanner planner = layout("0@0,0;0@2,0;0@4,0;0@6,0;0@8,0;0@10,0;0@12,0;0@16,0;");
        planner.slideItem(7, 4);
        planner.removeItem(0);
        checks.due("of seven", planner.closestPair(), 1);
        checks.due("the last two", layout("0@0,0;0@3,0;0@6,0;0@9,0;0@12,0;0@15,0;0@0,9;0@2,9;").closestPair(), 67);
    }

    private static void itemAt() {
        NestingPlanner planner = layout("0@2,2;0@4,2;1@10,10;2@0,10;");
        int[][] dues = {{2, 2, 0}, {4, 4, 0}, {3, 3, 0}, {4, 3, 0}, {5, 3, 1}, {6, 2, 1}, {7, 2, -1}, {3, 5, -1},
            {1, 2, -1}, {3, 1, -1}, {11, 12, 2}, {12, 12, -1}, {13, 10, 2}, {10, 13, 2}, {2, 11, 3}, {1, 12, 3},
            {2, 12, -1}, {3, 10, 3}, {60, 60, -1}, {-60, -60, -1}};
        for (int[] due : dues) {
            int want = due[2] < 0 ? Checks.NONE : due[2];
            checks.due("itemAt(" + due[0] + "," + due[1] + ")", planner.itemAt(due[0], due[1]), want);
        }
        checks.due("x 61", planner.itemAt(61, 3), Checks.INVALID);
        checks.due("x -61", planner.itemAt(-61, 3), Checks.INVALID);
        checks.due("y 61", planner.itemAt(3, 61), Checks.INVALID);
        checks.due("y -61", planner.itemAt(3, -61), Checks.INVALID);
        checks.due("no items", layout("").itemAt(0, 0), Checks.NONE);
    }

    private static void escaping(String text, int item, int... due) {
        NestingPlanner planner = layout(text);
        for (int direction = 0; direction < 8; direction++) {
            String call = "escapes(" + item + "," + direction + ") of " + text;
            checks.due(call, planner.escapes(item, direction), due[direction]);
        }
    }

    private static void escapes() {
        escaping("0@5,5;", 0, 1, 1, 1, 1, 1, 1, 1, 1);
        escaping("0@5,5;0@9,5;", 0, 0, 1, 1, 1, 1, 1, 1, 1);
        escaping("0@5,5;0@9,5;", 1, 1, 1, 1, 1, 0, 1, 1, 1);
        // they touch: along the edge is free
        escaping("0@5,5;0@7,5;", 0, 0, 0, 1, 1, 1, 1, 1, 0);
        escaping("0@5,5;0@7,7;", 0, 1, 0, 1, 1, 1, 1, 1, 1);
        // an item far away, past which it would slide
        escaping("0@5,5;0@7,15;", 0, 1, 1, 1, 1, 1, 1, 1, 1);
        escaping("0@5,5;0@6,15;", 0, 1, 1, 0, 1, 1, 1, 1, 1);
        escaping("0@5,5;0@14,15;", 0, 1, 0, 1, 1, 1, 1, 1, 1);
        // between two items
        escaping("0@1,5;0@5,5;0@9,5;", 1, 0, 1, 1, 1, 0, 1, 1, 1);
        // in the mouth of the C
        escaping("0@2,1;3@0,0;", 0, 1, 0, 0, 0, 0, 0, 0, 0);
        escaping("0@2,1;3@0,0;", 1, 0, 0, 0, 0, 1, 0, 0, 0);
        NestingPlanner planner = layout("0@5,5;0@9,5;");
        checks.due("direction 8", planner.escapes(0, 8), Checks.INVALID);
        checks.due("direction -1", planner.escapes(0, -1), Checks.INVALID);
        for (int item : NOT_ITEMS) {
            checks.due("escapes(" + item + ",0)", planner.escapes(item, 0), Checks.INVALID);
        }
    }

    /** Neither the container nor the clearance matters. */
    private static void escapesOnlyItems() {
        NestingPlanner planner = layout("0@0,0;0@6,3;");
        planner.setClearance(3);
        checks.due("escapes(0,0)", planner.escapes(0, 0), 1);
        checks.due("escapes(0,4)", planner.escapes(0, 4), 1);
        checks.due("removalOrder(0,0)", planner.removalOrder(0, 0), 0);
    }

    private static void order(String text, int direction, int... due) {
        NestingPlanner planner = layout(text);
        for (int k = 0; k < due.length; k++) {
            String call = "removalOrder(" + direction + "," + k + ") of " + text;
            checks.due(call, planner.removalOrder(direction, k), due[k]);
        }
        checks.due("its end, of " + text, planner.removalOrder(direction, due.length), Checks.NONE);
        checks.due("beyond, of " + text, planner.removalOrder(direction, Integer.MAX_VALUE), Checks.NONE);
        checks.due("nothing is removed, of " + text, planner.undo() == Checks.ILLEGAL ? 1 : 0, 0);
    }

    private static void removalOrder() {
        order("", 0);
        order("0@5,5;", 3, 0);
        order("0@0,0;0@4,0;0@8,0;", 0, 2, 1, 0);
        order("0@0,0;0@4,0;0@8,0;", 4, 0, 1, 2);
        order("0@0,0;0@4,0;0@8,0;", 2, 0, 1, 2);
        order("0@8,0;0@4,0;0@12,0;0@0,0;", 0, 2, 0, 1, 3);
        order("0@8,0;0@4,0;0@12,0;0@0,0;", 4, 3, 1, 0, 2);
        // item 0 comes as soon as item 1 is out, before item 2
        order("0@0,0;0@4,0;0@0,10;", 0, 1, 0, 2);
        order("0@0,0;0@4,4;0@8,8;", 1, 2, 1, 0);
        order("0@0,0;0@4,4;0@8,8;", 5, 0, 1, 2);
        order("0@14,0;0@12,0;0@10,0;0@8,0;0@6,0;0@4,0;0@2,0;0@0,0;", 4, 7, 6, 5, 4, 3, 2, 1, 0);
        NestingPlanner planner = layout("0@0,0;0@4,0;");
        checks.due("direction 8", planner.removalOrder(8, 0), Checks.INVALID);
        checks.due("direction -1", planner.removalOrder(-1, 0), Checks.INVALID);
        checks.due("k -1", planner.removalOrder(0, -1), Checks.INVALID);
        checks.due("k min", planner.removalOrder(0, Integer.MIN_VALUE), Checks.INVALID);
        checks.due("itemCount()", planner.itemCount(), 2);
    }

    private static void removalOrderEnds() {
        order("0@2,1;3@0,0;", 4, 1, 0);
        order("0@2,1;3@0,0;", 0, 0, 1);
        order("0@2,1;3@0,0;", 2);
        // an item above the C and one beside it
        order("0@2,1;3@0,0;0@2,9;0@9,0;", 2, 2, 3);
        order("0@9,0;0@2,1;3@0,0;0@2,9;", 6, 0);
    }

    private static void packedDoubleArea() {
        checks.due("no items", layout("").packedDoubleArea(), 0);
        checks.due("square", layout("0@3,3;").packedDoubleArea(), 8);
        checks.due("square, triangle", layout("0@3,3;1@9,9;").packedDoubleArea(), 17);
        // the pieces of L overlap in a square of side 1
        checks.due("L", layout("2@3,3;").packedDoubleArea(), 12);
        checks.due("L, C", layout("2@15,15;3@3,3;").packedDoubleArea(), 42);
    }

    private static void box(String text, int... due) {
        NestingPlanner planner = layout(text);
        for (int side = 0; side < 4; side++) {
            checks.due("boundingBox(" + side + ") of " + text, planner.boundingBox(side), due[side]);
        }
    }

    private static void boundingBox() {
        box("", Checks.NONE, Checks.NONE, Checks.NONE, Checks.NONE);
        box("0@3,5;", 3, 5, 5, 7);
        box("0@3,5;1@9,1;", 3, 1, 12, 7);
        box("1@9,1;0@3,5;3@15,15;", 3, 1, 20, 20);
        box("3@10,10;0@1,2;0@4,17;", 1, 2, 15, 19);
        NestingPlanner planner = Checks.with("9,98,98,8;");
        planner.placeBottomLeft(0);
        checks.due("left", planner.boundingBox(0), 0);
        checks.due("bottom", planner.boundingBox(1), 0);
        checks.due("right", planner.boundingBox(2), 1);
        checks.due("top", planner.boundingBox(3), 1);
        checks.due("side 4", planner.boundingBox(4), Checks.INVALID);
        checks.due("side -1", planner.boundingBox(-1), Checks.INVALID);
        checks.due("side 4, no items", layout("").boundingBox(4), Checks.INVALID);
    }

    private static void touchingPairs() {
        checks.due("no items", layout("").touchingPairs(), 0);
        checks.due("one item", layout("0@0,0;").touchingPairs(), 0);
        checks.due("apart", layout("0@0,0;0@3,0;").touchingPairs(), 0);
        checks.due("an edge", layout("0@0,0;0@2,1;").touchingPairs(), 1);
        checks.due("a corner", layout("0@4,4;0@2,2;").touchingPairs(), 1);
        checks.due("a row", layout("0@0,0;0@2,0;0@4,0;0@9,9;").touchingPairs(), 2);
        checks.due("four", layout("0@0,0;0@2,0;0@0,2;0@2,2;").touchingPairs(), 6);
        checks.due("in the notch", layout("2@0,0;0@1,1;0@6,6;1@8,7;").touchingPairs(), 2);
    }
}
