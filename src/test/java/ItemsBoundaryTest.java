import java.util.function.Supplier;

/**
 * Boundary cases of what is asked of the items: promises 27, 28 and 30 to 37. Above each test stands
 * the sentence of the document that it is for.
 */
final class ItemsBoundaryTest {
    private static final Checks checks = new Checks();
    private static final Boundary boundary = new Boundary(checks);

    public static void main(String[] args) {
        itemCount();
        itemPlaceArguments();
        itemGapArguments();
        itemGapZeroAndFractions();
        closestPairOfFewItems();
        closestPairTies();
        itemAtArguments();
        itemAtTheBoundary();
        itemAtLowestNumber();
        itemAtNone();
        escapesArguments();
        escapesAlongAnEdge();
        escapesByAnyRealMultiple();
        escapesAlone();
        escapesWhateverContainerAndClearance();
        removalOrderArguments();
        removalOrderOfNoItems();
        removalOrderLowestFirst();
        removalOrderOnlyThoseLeft();
        removalOrderEndsEarly();
        removalOrderOfEight();
        packedDoubleArea();
        boundingBoxArguments();
        boundingBoxOfNoItems();
        boundingBoxAtItsEnds();
        touchingPairs();
        checks.finish();
    }

    // ---- promises 27 and 28

    /** "Returns the number of items": from 0 to 8. */
    private static void itemCount() {
        NestingPlanner planner = Boundary.shapes();
        for (int count = 0; count < 8; count++) {
            checks.due("itemCount()", planner.itemCount(), count);
            planner.place(Boundary.UNIT_SLOT, 2 * count, 0);
        }
        checks.due("itemCount()", planner.itemCount(), 8);
        planner.place(Boundary.UNIT_SLOT, 0, 9);
        checks.due("itemCount() after a ninth", planner.itemCount(), 8);
        checks.due("itemCount() of a new object", new NestingPlanner().itemCount(), 0);
    }

    /** "INVALID_ARGUMENT if there is no such item or coordinate is neither 0 nor 1". */
    private static void itemPlaceArguments() {
        Boundary.Asked place = boundary.ask("itemPlace", Boundary.items("3@3,4;0@6,7;"),
            (planner, a) -> planner.itemPlace(a[0], a[1]), 0, 0);
        place.takes(0, 0, 3);
        place.takes(0, 1, 6);
        place.refusesBeyond(0, 0, 1);
        place.takes(1, 0, 3);
        place.takes(1, 1, 4);
        place.refusesBeyond(1, 0, 1);
        boundary.taken("item 7 of 8", Boundary::eight, planner -> planner.itemPlace(7, 0), 14);
        boundary.refused("item 8 of 8", Boundary::eight, planner -> planner.itemPlace(8, 0), Checks.INVALID);
        boundary.refused("item 0 of none", Boundary::shapes, planner -> planner.itemPlace(0, 0), Checks.INVALID);
    }

    // ---- promise 30

    /** "INVALID_ARGUMENT if there is no such item, both are the same, or part is out of range". */
    private static void itemGapArguments() {
        Boundary.Asked gap = boundary.ask("itemGap", Boundary.items("3@0,0;3@3,0;3@9,9;"),
            (planner, a) -> planner.itemGap(a[0], a[1], a[2]), 0, 1, 0);
        gap.takes(0, 2, 25 + 64);
        gap.refuses(0, 1, Checks.INVALID);
        gap.refusesBeyond(0, 0, 2);
        gap.takes(1, 1, 4);
        gap.takes(1, 2, 64 + 64);
        gap.refuses(1, 0, Checks.INVALID);
        gap.refusesBeyond(1, 0, 2);
        gap.takes(2, 0, 4);
        gap.takes(2, 1, 1);
        gap.refusesBeyond(2, 0, 1);
        boundary.taken("items 6 and 7 of 8", Boundary::eight, planner -> planner.itemGap(6, 7, 0), 1);
        boundary.taken("items 7 and 0 of 8", Boundary::eight, planner -> planner.itemGap(7, 0, 0), 13 * 13);
        boundary.refused("item 7 and itself", Boundary::eight, planner -> planner.itemGap(7, 7, 0), Checks.INVALID);
        boundary.refused("item 8 of 8", Boundary::eight, planner -> planner.itemGap(8, 7, 0), Checks.INVALID);
        boundary.refused("the only item", Boundary.items("3@0,0;"), planner -> planner.itemGap(0, 0, 0),
            Checks.INVALID);
        boundary.refused("no items", Boundary::shapes, planner -> planner.itemGap(0, 1, 0), Checks.INVALID);
    }

    private static void gap(String layout, int above, int below) {
        for (int first = 0; first < 2; first++) {
            int item = first;
            boundary.taken("itemGap above, of " + layout, Boundary.items(layout),
                planner -> planner.itemGap(item, 1 - item, 0), above);
            boundary.taken("itemGap below, of " + layout, Boundary.items(layout),
                planner -> planner.itemGap(item, 1 - item, 1), below);
        }
    }

    /** "Fractions are in lowest terms with a positive denominator; 0 is 0 / 1." */
    private static void itemGapZeroAndFractions() {
        gap("0@0,0;0@2,0;", 0, 1);
        gap("0@0,0;0@2,2;", 0, 1);
        gap("1@0,0;3@1,2;", 0, 1);
        gap("0@0,0;0@3,0;", 1, 1);
        gap("1@0,0;3@2,2;", 1, 2);
        gap("1@0,0;3@3,2;", 2, 1);
        gap("1@0,0;3@3,3;", 9, 2);
        gap("3@0,0;3@19,19;", 2 * 18 * 18, 1);
        gap("2@0,0;3@1,1;", 0, 1);
        gap("2@0,0;3@3,3;", 1, 2);
        // beyond 60 in x and y
        NestingPlanner far = Checks.with("8,89,88,9;", "-9,-9-8,-9-9,-8;");
        far.setContainer(40, 40);
        checks.due("the farthest", Checks.layout(far, "0@-8,-8;1@48,48;"), 2);
        // from x + y = 1 to the corner (39, 39)
        checks.due("the farthest, above", far.itemGap(0, 1, 0), 77 * 77);
        checks.due("the farthest, below", far.itemGap(0, 1, 1), 2);
        checks.due("the farthest, the other way, above", far.itemGap(1, 0, 0), 77 * 77);
    }

    // ---- promise 31

    private static void closest(String layout, int due) {
        boundary.taken("closestPair() of " + layout, Boundary.items(layout), NestingPlanner::closestPair, due);
    }

    /** "NONE if there are fewer than two items". */
    private static void closestPairOfFewItems() {
        boundary.refused("no items", Boundary::shapes, NestingPlanner::closestPair, Checks.NONE);
        boundary.refused("one item", Boundary.items("3@0,0;"), NestingPlanner::closestPair, Checks.NONE);
        closest("3@0,0;3@19,19;", 1);
        closest("3@0,0;3@1,0;", 1);
        boundary.taken("two of three", () -> {
            NestingPlanner planner = Boundary.items("3@0,0;3@9,0;").get();
            planner.removeItem(0);
            return planner;
        }, NestingPlanner::closestPair, Checks.NONE);
    }

    /** "of several pairs the one with the smallest i, then the smallest j". */
    private static void closestPairTies() {
        closest("3@0,0;3@2,0;3@4,0;", 1);
        closest("3@2,0;3@0,0;3@4,0;", 1);
        closest("3@0,0;3@9,0;3@2,0;3@11,0;", 2);
        closest("3@0,0;3@9,0;3@11,0;3@2,0;", 3);
        closest("3@0,0;3@9,0;3@11,0;3@7,0;", 12);
        closest("3@9,9;3@0,0;3@2,0;3@4,0;", 12);
        closest("3@0,0;3@1,0;3@0,1;3@1,1;", 1);
        closest("3@0,0;3@9,9;3@1,0;3@10,9;", 2);
        closest("3@0,0;3@3,0;3@9,9;3@11,9;", 23);
        // 4 / 8 is 1 / 2, as near as 1 / 2
        closest("1@0,0;3@2,2;1@9,9;3@11,11;", 1);
        // 1 / 2 is nearer than 1
        closest("3@0,0;3@2,0;1@9,9;3@11,11;", 23);
        closest("3@0,0;3@3,0;3@6,0;3@9,0;3@12,0;3@15,0;3@0,9;3@2,9;", 67);
        closest("3@0,0;3@3,0;3@6,0;3@9,0;3@12,0;3@15,0;3@18,0;3@0,2;", 7);
    }

    // ---- promise 32

    /** "x: -60 to 60", "y: -60 to 60"; "INVALID_ARGUMENT if an argument is out of range". */
    private static void itemAtArguments() {
        Boundary.Asked at = boundary.ask("itemAt", Boundary.items("0@0,0;"),
            (planner, a) -> planner.itemAt(a[0], a[1]), 1, 1);
        for (int index = 0; index < 2; index++) {
            at.takes(index, 2, 0);
            at.refuses(index, -60, Checks.NONE);
            at.refuses(index, 60, Checks.NONE);
            at.refusesBeyond(index, -60, 60);
        }
        boundary.refused("no items, x 61", Boundary::shapes, planner -> planner.itemAt(61, 0), Checks.INVALID);
    }

    /** "an item that contains the point (its boundary belongs to it)". */
    private static void itemAtTheBoundary() {
        Supplier<NestingPlanner> setup = Boundary.items("1@5,5;2@10,10;");
        int[][] inside = {{5, 5, 0}, {8, 5, 0}, {5, 8, 0}, {6, 7, 0}, {7, 6, 0}, {6, 6, 0}, {6, 5, 0},
            {10, 10, 1}, {13, 10, 1}, {13, 11, 1}, {11, 11, 1}, {11, 13, 1}, {10, 13, 1}, {12, 11, 1},
            {12, 12, 1}, {13, 12, 1}, {12, 13, 1}};
        int[][] outside = {{4, 5}, {5, 4}, {9, 5}, {5, 9}, {7, 7}, {8, 6}, {6, 8}, {9, 10}, {14, 10}, {10, 14},
            {13, 13}, {10, 9}, {0, 0}, {20, 20}};
        for (int[] point : inside) {
            boundary.taken("itemAt(" + point[0] + "," + point[1] + ")", setup,
                planner -> planner.itemAt(point[0], point[1]), point[2]);
        }
        for (int[] point : outside) {
            boundary.taken("itemAt(" + point[0] + "," + point[1] + ")", setup,
                planner -> planner.itemAt(point[0], point[1]), Checks.NONE);
        }
    }

    /** "the lowest number of an item that contains the point": where items touch. */
    private static void itemAtLowestNumber() {
        boundary.taken("a common corner of four", Boundary.items("0@2,2;0@0,0;0@2,0;0@0,2;"),
            planner -> planner.itemAt(2, 2), 0);
        boundary.taken("a common corner of three", Boundary.items("0@9,9;0@0,0;0@2,0;0@0,2;"),
            planner -> planner.itemAt(2, 2), 1);
        boundary.taken("a common edge", Boundary.items("0@9,9;0@2,0;0@0,0;"), planner -> planner.itemAt(2, 1), 1);
        boundary.taken("the last alone", Boundary.items("0@9,9;0@2,0;0@0,0;"), planner -> planner.itemAt(1, 1), 2);
        boundary.taken("the eighth", Boundary::eight, planner -> planner.itemAt(15, 1), 7);
        boundary.taken("removed", () -> {
            NestingPlanner planner = Boundary.items("0@0,0;0@2,0;").get();
            planner.removeItem(0);
            return planner;
        }, planner -> planner.itemAt(2, 1), 0);
    }

    /** "NONE if there is none". */
    private static void itemAtNone() {
        boundary.refused("no items", Boundary::shapes, planner -> planner.itemAt(0, 0), Checks.NONE);
        boundary.refused("beside the items", Boundary::busy, planner -> planner.itemAt(3, 3), Checks.NONE);
        // inside the hull, but in no piece
        NestingPlanner hook = Checks.with("0,05,05,10,1;0,01,01,50,5;0,45,45,50,5;");
        hook.place(0, 0, 0);
        checks.due("in the C", hook.itemAt(2, 2), Checks.NONE);
        checks.due("on its inner side", hook.itemAt(1, 2), 0);
    }

    // ---- promise 33

    /** "INVALID_ARGUMENT if there is no such item, or direction is out of range". */
    private static void escapesArguments() {
        Boundary.Asked escapes = boundary.ask("escapes", Boundary.items("3@0,0;3@9,0;"),
            (planner, a) -> planner.escapes(a[0], a[1]), 0, 0);
        escapes.takes(0, 0, 0);
        escapes.takes(0, 1, 1);
        escapes.refusesBeyond(0, 0, 1);
        escapes.takes(1, 0, 0);
        escapes.takes(1, 7, 1);
        escapes.refusesBeyond(1, 0, 7);
        boundary.taken("item 7 of 8", Boundary::eight, planner -> planner.escapes(7, 0), 1);
        boundary.taken("item 7 of 8, the other way", Boundary::eight, planner -> planner.escapes(7, 4), 0);
        boundary.refused("item 8 of 8", Boundary::eight, planner -> planner.escapes(8, 0), Checks.INVALID);
        boundary.refused("no items", Boundary::shapes, planner -> planner.escapes(0, 0), Checks.INVALID);
    }

    private static void escapes(String layout, int item, int direction, int due) {
        boundary.taken("escapes(" + item + "," + direction + ") of " + layout, Boundary.items(layout),
            planner -> planner.escapes(item, direction), due);
    }

    /** "without overlapping another item": to touch it is allowed, at the beginning and on the way. */
    private static void escapesAlongAnEdge() {
        escapes("0@5,5;0@7,5;", 0, 0, 0);
        escapes("0@5,5;0@7,5;", 0, 1, 0);
        escapes("0@5,5;0@7,5;", 0, 2, 1);
        escapes("0@5,5;0@7,5;", 0, 4, 1);
        escapes("0@5,5;0@7,5;", 0, 6, 1);
        escapes("0@5,5;0@9,7;", 0, 0, 1);
        escapes("0@5,5;0@9,6;", 0, 0, 0);
        escapes("0@5,5;0@9,3;", 0, 0, 1);
        escapes("0@5,5;0@9,4;", 0, 0, 0);
        escapes("0@5,5;0@9,5;", 0, 1, 1);
        escapes("0@5,5;0@7,7;", 0, 1, 0);
        escapes("0@5,5;0@7,7;", 0, 0, 1);
        escapes("0@5,5;0@7,7;", 0, 2, 1);
        escapes("0@5,5;0@9,7;", 0, 1, 0);
        // over the corner
        escapes("0@5,5;0@9,5;", 0, 7, 1);
        escapes("0@9,9;0@9,13;", 0, 3, 1);
        escapes("0@9,9;0@9,13;", 0, 1, 1);
    }

    /** "by any real multiple (0 or more) of the direction": not by integer steps alone, and not backward. */
    private static void escapesByAnyRealMultiple() {
        NestingPlanner planner = Checks.with("0,01,00,1;", "1,01,10,1;");
        Checks.layout(planner, "0@0,0;1@0,0;");
        checks.due("half way it would overlap", planner.escapes(0, 1), 0);
        checks.due("backward it is free", planner.escapes(0, 5), 1);
        checks.due("so it is for the other one", planner.escapes(1, 1), 1);
        escapes("3@0,0;3@9,0;", 0, 4, 1);
        escapes("3@0,0;3@9,0;", 1, 0, 1);
        // however far away the other one is
        escapes("3@0,0;3@19,19;", 0, 1, 0);
        escapes("3@0,0;3@18,19;", 0, 1, 0);
        escapes("3@0,0;3@17,19;", 0, 1, 1);
        escapes("3@0,0;2@16,17;", 0, 1, 0);
    }

    /** One item alone can be taken out in each direction; between others in none. */
    private static void escapesAlone() {
        for (int direction = 0; direction < 8; direction++) {
            escapes("2@9,9;", 0, direction, 1);
            escapes("0@9,9;0@7,7;0@9,7;0@11,7;0@7,9;0@11,9;0@9,11;", 0, direction, 0);
        }
        escapes("0@9,9;0@7,9;0@11,9;0@9,7;", 0, 2, 1);
        escapes("0@9,9;0@7,9;0@11,9;0@9,7;", 0, 1, 0);
        escapes("0@9,9;0@7,9;0@11,9;0@9,7;", 0, 3, 0);
    }

    /** "(container and clearance do not matter)". */
    private static void escapesWhateverContainerAndClearance() {
        NestingPlanner planner = Boundary.items("0@0,0;0@18,5;").get();
        planner.setClearance(3);
        for (int item = 0; item < 2; item++) {
            for (int direction = 0; direction < 8; direction++) {
                checks.due("escapes(" + item + "," + direction + ")", planner.escapes(item, direction), 1);
            }
        }
    }

    // ---- promise 34

    /** "INVALID_ARGUMENT if direction is out of range, or k is negative". */
    private static void removalOrderArguments() {
        Boundary.Asked order = boundary.ask("removalOrder", Boundary.items("3@0,0;3@9,0;"),
            (planner, a) -> planner.removalOrder(a[0], a[1]), 0, 0);
        order.takes(0, 0, 1);
        order.takes(0, 4, 0);
        order.takes(0, 7, 0);
        order.refusesBeyond(0, 0, 7);
        order.takes(1, 0, 1);
        order.takes(1, 1, 0);
        order.refuses(1, -1, Checks.INVALID);
        order.refuses(1, Integer.MIN_VALUE, Checks.INVALID);
        order.refuses(1, 2, Checks.NONE);
        order.refuses(1, Integer.MAX_VALUE, Checks.NONE);
        boundary.refused("no items, direction 8", Boundary::shapes, planner -> planner.removalOrder(8, 0),
            Checks.INVALID);
        boundary.refused("no items, k -1", Boundary::shapes, planner -> planner.removalOrder(0, -1), Checks.INVALID);
    }

    /** The whole order, and NONE behind it. */
    private static void order(String layout, int direction, int... due) {
        NestingPlanner planner = Boundary.items(layout).get();
        String what = "removalOrder(" + direction + ",..) of " + layout;
        for (int k = 0; k < due.length; k++) {
            checks.due(what + " at " + k, planner.removalOrder(direction, k), due[k]);
        }
        for (int k = due.length; k <= 9; k++) {
            checks.due(what + " at " + k, planner.removalOrder(direction, k), Checks.NONE);
        }
    }

    /** "NONE if the order is not so long": of no items it is empty. */
    private static void removalOrderOfNoItems() {
        for (int direction = 0; direction < 8; direction++) {
            order("", direction);
            order("3@9,9;", direction, 0);
        }
    }

    /** "the lowest one of the items that are left that can be taken out". */
    private static void removalOrderLowestFirst() {
        order("3@0,0;3@9,0;3@0,9;3@9,9;", 2, 2, 0, 3, 1);
        order("3@0,0;3@9,0;3@0,9;3@9,9;", 6, 0, 1, 2, 3);
        order("3@0,0;3@9,0;3@0,9;3@9,9;", 0, 1, 0, 3, 2);
        order("3@0,0;3@9,0;3@0,9;3@9,9;", 4, 0, 1, 2, 3);
        order("3@9,9;3@0,0;3@0,9;3@9,0;", 1, 0, 1, 2, 3);
        order("3@9,9;3@0,0;3@0,9;3@9,0;", 5, 1, 0, 2, 3);
    }

    /** "(as escapes(), but only items that are left count)": a lower one comes as soon as it can. */
    private static void removalOrderOnlyThoseLeft() {
        order("3@0,0;3@3,0;3@6,0;", 0, 2, 1, 0);
        order("3@3,0;3@6,0;3@0,0;", 0, 1, 0, 2);
        order("3@0,0;3@3,0;3@0,9;3@6,0;", 0, 2, 3, 1, 0);
        order("3@0,0;3@3,0;3@0,9;", 0, 1, 0, 2);
        order("3@3,0;3@0,0;3@0,9;", 0, 0, 1, 2);
        order("3@0,0;3@0,9;3@3,0;", 0, 1, 2, 0);
        // what touches and goes along is no hindrance
        order("3@0,0;3@1,0;", 2, 0, 1);
        order("3@0,0;3@1,0;", 0, 1, 0);
    }

    /** "the order ends when none of the items that are left can be taken out". */
    private static void removalOrderEndsEarly() {
        // a C that a bar closes, a square inside it, and one beside it
        NestingPlanner planner = Checks.with("0,05,05,10,1;0,01,01,50,5;0,45,45,50,5;", "0,01,01,50,5;");
        Checks.load(planner, 2, Boundary.UNIT);
        checks.due("layout", Checks.layout(planner, "2@2,2;0@0,0;1@5,0;2@15,0;"), 4);
        checks.due("upward: the bar first", planner.removalOrder(2, 0), 2);
        checks.due("upward: the square beside", planner.removalOrder(2, 1), 3);
        checks.due("upward: no more", planner.removalOrder(2, 2), Checks.NONE);
        checks.due("upward: no more", planner.removalOrder(2, 3), Checks.NONE);
        int[] left = {1, 0, 2, 3};
        int[] right = {3, 2, 0, 1};
        for (int k = 0; k < 4; k++) {
            checks.due("to the left " + k, planner.removalOrder(4, k), left[k]);
            checks.due("to the right " + k, planner.removalOrder(0, k), right[k]);
        }
        checks.due("nothing was removed", planner.itemCount(), 4);
        // none at all
        checks.due("layout", Checks.layout(planner, "2@2,2;0@0,0;"), 2);
        checks.due("the square in the C", planner.removalOrder(2, 0), Checks.NONE);
        checks.due("the C around the square", planner.escapes(1, 2), 0);
    }

    /** All eight, in the order that is the farthest from that of their numbers. */
    private static void removalOrderOfEight() {
        String layout = "3@0,0;3@2,0;3@4,0;3@6,0;3@8,0;3@10,0;3@12,0;3@14,0;";
        order(layout, 0, 7, 6, 5, 4, 3, 2, 1, 0);
        order(layout, 4, 0, 1, 2, 3, 4, 5, 6, 7);
        order(layout, 2, 0, 1, 2, 3, 4, 5, 6, 7);
        boundary.refused("index 8 of 8", Boundary::eight, planner -> planner.removalOrder(0, 8), Checks.NONE);
    }

    // ---- promise 35

    /** "where pieces of an item overlap, the area counts for each of them"; of no items it is 0. */
    private static void packedDoubleArea() {
        boundary.taken("no items", Boundary::shapes, NestingPlanner::packedDoubleArea, 0);
        boundary.taken("a new object", NestingPlanner::new, NestingPlanner::packedDoubleArea, 0);
        boundary.taken("pieces that overlap", Boundary.items("2@0,0;"), NestingPlanner::packedDoubleArea, 6 + 6 + 1);
        boundary.taken("eight items", Boundary::eight, NestingPlanner::packedDoubleArea, 16);
        NestingPlanner planner = Checks.with("-9,-99,-99,9-9,9;-9,-99,-99,9-9,9;-9,-99,-99,9-9,9;");
        planner.setContainer(40, 40);
        for (int item = 0; item < 4; item++) {
            planner.placeBottomLeft(0);
        }
        checks.due("the greatest", planner.packedDoubleArea(), 4 * 3 * 648);
        planner.removeItem(2);
        checks.due("one less", planner.packedDoubleArea(), 3 * 3 * 648);
    }

    // ---- promise 36

    /** "side: 0 .. 3"; "INVALID_ARGUMENT if side is out of range". */
    private static void boundingBoxArguments() {
        Boundary.Asked box = boundary.ask("boundingBox", Boundary.items("0@3,5;1@9,10;"),
            (planner, a) -> planner.boundingBox(a[0]), 1);
        box.takes(0, 0, 3);
        box.takes(0, 1, 5);
        box.takes(0, 2, 12);
        box.takes(0, 3, 13);
        box.refusesBeyond(0, 0, 3);
    }

    /** "NONE if there are no items"; INVALID_ARGUMENT is named before. */
    private static void boundingBoxOfNoItems() {
        Boundary.Asked box = boundary.ask("boundingBox of no items", Boundary::shapes,
            (planner, a) -> planner.boundingBox(a[0]), 0);
        for (int side = 0; side < 4; side++) {
            box.refuses(0, side, Checks.NONE);
        }
        box.refusesBeyond(0, 0, 3);
    }

    /** From 0 to 40, and each side by another item: the first, or the last. */
    private static void boundingBoxAtItsEnds() {
        NestingPlanner planner = Checks.with(Boundary.UNIT, "-9,-9-8,-9-8,-8-9,-8;");
        planner.setContainer(40, 40);
        int[][] orders = {{0, 20, 39, 21, 20, 39, 21, 0}, {21, 0, 20, 39, 39, 21, 0, 20}};
        for (int[] places : orders) {
            StringBuilder layout = new StringBuilder();
            for (int k = 0; k < 8; k += 2) {
                layout.append("0@").append(places[k]).append(',').append(places[k + 1]).append(';');
            }
            checks.due("layout " + layout, Checks.layout(planner, layout.toString()), 4);
            checks.due("left", planner.boundingBox(0), 0);
            checks.due("bottom", planner.boundingBox(1), 0);
            checks.due("right", planner.boundingBox(2), 40);
            checks.due("top", planner.boundingBox(3), 40);
        }
        checks.due("a place beyond 40", Checks.layout(planner, "1@48,48;"), 1);
        checks.due("left of it", planner.boundingBox(0), 39);
        checks.due("bottom of it", planner.boundingBox(1), 39);
        checks.due("right of it", planner.boundingBox(2), 40);
        checks.due("top of it", planner.boundingBox(3), 40);
        // the vertices count, not the place: each of them alone is at one side
        NestingPlanner oblique = Checks.with("-2,1-1,-31,-21,4;");
        oblique.place(0, 10, 10);
        checks.due("the first vertex", oblique.boundingBox(0), 8);
        checks.due("the second vertex", oblique.boundingBox(1), 7);
        checks.due("the third vertex", oblique.boundingBox(2), 11);
        checks.due("the fourth vertex", oblique.boundingBox(3), 14);
    }

    // ---- promise 37

    private static void touching(String layout, int due) {
        boundary.taken("touchingPairs() of " + layout, Boundary.items(layout), NestingPlanner::touchingPairs, due);
    }

    /** "Counts the pairs of items that touch": from none, of no items, to all. */
    private static void touchingPairs() {
        touching("", 0);
        touching("3@0,0;", 0);
        touching("3@0,0;3@2,0;", 0);
        touching("3@0,0;3@1,0;", 1);
        touching("3@0,0;3@1,1;", 1);
        touching("3@1,1;3@0,0;3@1,0;3@0,1;", 6);
        touching("1@0,0;3@1,2;", 1);
        touching("1@0,0;3@2,2;", 0);
        touching("2@0,0;3@1,1;", 1);
        // different shapes, and the other way round
        touching("3@2,0;0@0,0;", 1);
        touching("0@0,0;3@2,0;", 1);
        touching("1@9,9;0@7,9;3@12,9;3@9,8;", 4);
        touching("3@0,0;3@1,0;3@2,0;3@3,0;3@0,1;3@1,1;3@2,1;3@3,1;", 4 + 3 + 3 + 6);
        touching("3@0,0;3@2,0;3@4,0;3@6,0;3@8,0;3@10,0;3@12,0;3@13,0;", 1);
        boundary.taken("no pair of eight", Boundary::eight, NestingPlanner::touchingPairs, 0);
    }
}
