import java.util.function.Supplier;

/**
 * Boundary cases of items that are slid, compacted and removed: promises 24 to 26. Above each test
 * stands the sentence of the document that it is for.
 */
final class MovingBoundaryTest {
    private static final Checks checks = new Checks();
    private static final Boundary boundary = new Boundary(checks);
    private static final int[] DX = {1, 1, 0, -1, -1, -1, 0, 1};
    private static final int[] DY = {0, 1, 1, 1, 0, -1, -1, -1};

    public static void main(String[] args) {
        slideItemArguments();
        slideItemOfNoItems();
        slideItemToEachWall();
        slideItemByNoStep();
        slideItemUntilItTouches();
        slideItemUntilTheClearance();
        slideItemByIntegerStepsAlone();
        slideItemPastOthers();
        slideItemFarthest();
        compactOfNoItems();
        compactThatMovesNothing();
        compactByOneStep();
        compactDownBeforeLeft();
        compactInTheOrderOfTheNumbers();
        compactInRounds();
        compactWithEightItems();
        compactAtTheClearance();
        removeItemArguments();
        removeItemOfNoItems();
        removeItemRenumbers();
        removeItemRenumbersAll();
        removeItemUntilNoneIsLeft();
        checks.finish();
    }

    private static void at(String what, NestingPlanner planner, int item, int x, int y) {
        checks.due(what + ": x of item " + item, planner.itemPlace(item, 0), x);
        checks.due(what + ": y of item " + item, planner.itemPlace(item, 1), y);
    }

    // ---- promise 24

    /** "item: number of an item", "direction: 0 to 7"; "INVALID_ARGUMENT if there is no such item, or ..". */
    private static void slideItemArguments() {
        Boundary.Asked slide = boundary.ask("slideItem", Boundary::busy,
            (planner, a) -> planner.slideItem(a[0], a[1]), 1, 0);
        slide.takes(0, 0, 13);
        slide.takes(0, 1, 7);
        slide.refusesBeyond(0, 0, 1);
        slide.takes(1, 0, 7);
        slide.takes(1, 7, 5);
        slide.refusesBeyond(1, 0, 7);
        boundary.taken("item 7 of 8", Boundary::eight, planner -> planner.slideItem(7, 0), 5);
        boundary.refused("item 8 of 8", Boundary::eight, planner -> planner.slideItem(8, 0), Checks.INVALID);
        boundary.refused("a blocked item, direction 8", Boundary::eight, planner -> planner.slideItem(0, 8),
            Checks.INVALID);
    }

    /** There is no item 0 if there are no items. */
    private static void slideItemOfNoItems() {
        boundary.refused("slideItem(0,0)", Boundary::shapes, planner -> planner.slideItem(0, 0), Checks.INVALID);
    }

    /** "as long as it fits at the next place": until the container's boundary, which is allowed. */
    private static void slideItemToEachWall() {
        for (int direction = 0; direction < 8; direction++) {
            NestingPlanner planner = Boundary.items("0@9,9;").get();
            checks.due("slideItem(0," + direction + ")", planner.slideItem(0, direction), 9);
            at("direction " + direction, planner, 0, 9 + 9 * DX[direction], 9 + 9 * DY[direction]);
            checks.due("slideItem(0," + direction + ") again", planner.slideItem(0, direction), Checks.NONE);
            checks.due("and back", planner.slideItem(0, (direction + 4) % 8), 18);
        }
    }

    /** "NONE if it cannot be moved by one step": at a wall, at an item, at the clearance. */
    private static void slideItemByNoStep() {
        for (int direction = 0; direction < 8; direction++) {
            int away = direction;
            String wall = "0@" + (9 + 9 * DX[direction]) + "," + (9 + 9 * DY[direction]) + ";";
            boundary.refused("at the wall, " + direction, Boundary.items(wall),
                planner -> planner.slideItem(0, away), Checks.NONE);
            String beside = "0@9,9;0@" + (9 + 2 * DX[direction]) + "," + (9 + 2 * DY[direction]) + ";";
            boundary.refused("at an item, " + direction, Boundary.items(beside),
                planner -> planner.slideItem(0, away), Checks.NONE);
            String one = "0@9,9;0@" + (9 + 3 * DX[direction]) + "," + (9 + 3 * DY[direction]) + ";";
            boundary.taken("one step is left, " + direction, Boundary.items(one),
                planner -> planner.slideItem(0, away), 1);
            Supplier<NestingPlanner> close = () -> {
                NestingPlanner planner = Boundary.items(one).get();
                planner.setClearance(1);
                return planner;
            };
            boundary.refused("at the clearance, " + direction, close, planner -> planner.slideItem(0, away),
                Checks.NONE);
        }
        // in a corner, a step along one wall does not make up for the other one
        boundary.refused("in the corner", Boundary.items("0@0,5;"), planner -> planner.slideItem(0, 3), Checks.NONE);
        boundary.refused("as large as the container", () -> {
            NestingPlanner planner = Boundary.shapes();
            planner.setContainer(2, 2);
            planner.place(0, 0, 0);
            return planner;
        }, planner -> planner.slideItem(0, 1), Checks.NONE);
    }

    /** Touching is allowed, and the other items stay where they are. */
    private static void slideItemUntilItTouches() {
        NestingPlanner planner = Boundary.items("0@0,0;0@9,1;0@9,9;").get();
        checks.due("to the left", planner.slideItem(1, 4), 7);
        at("to the left", planner, 1, 2, 1);
        at("the other stays", planner, 0, 0, 0);
        checks.due("past both", planner.slideItem(2, 4), 9);
        checks.due("onto the first one", planner.slideItem(2, 6), 7);
        at("onto the first one", planner, 2, 0, 2);
    }

    /** "as long as it fits": the clearance counts. */
    private static void slideItemUntilTheClearance() {
        for (int clearance = 0; clearance <= 5; clearance++) {
            NestingPlanner planner = Boundary.items("0@0,0;0@18,1;").get();
            planner.setClearance(clearance);
            checks.due("with clearance " + clearance, planner.slideItem(1, 4), 16 - clearance);
            at("with clearance " + clearance, planner, 1, 2 + clearance, 1);
        }
        NestingPlanner wall = Boundary.items("0@9,9;").get();
        wall.setClearance(5);
        checks.due("the wall may be touched", wall.slideItem(0, 4), 9);
    }

    /** "it is moved by the direction step by step": what is between two steps does not matter. */
    private static void slideItemByIntegerStepsAlone() {
        NestingPlanner planner = Checks.with("0,01,00,1;", "1,01,10,1;");
        checks.due("both halves", Checks.layout(planner, "0@0,0;1@0,0;"), 2);
        checks.due("over the other half", planner.slideItem(0, 1), 19);
        at("over the other half", planner, 0, 19, 19);
        checks.due("though it would overlap half way", Checks.layout(planner, "0@0,0;1@0,0;"), 2);
        checks.due("and so does not escape", planner.escapes(0, 1), 0);
        // half a step is left
        NestingPlanner half = Boundary.items("1@0,0;1@3,3;").get();
        checks.due("half a step is left", half.slideItem(1, 5), 1);
        boundary.refused("half a step", Boundary.items("1@0,0;1@2,2;"), other -> other.slideItem(1, 5), Checks.NONE);
    }

    /** It stops at the first place at which it does not fit, also if it would fit behind it. */
    private static void slideItemPastOthers() {
        NestingPlanner planner = Boundary.items("3@0,0;3@5,0;3@9,1;").get();
        checks.due("before the other", planner.slideItem(0, 0), 4);
        checks.due("below the third", planner.slideItem(1, 0), 14);
        at("below the third", planner, 1, 19, 0);
        checks.due("along the third", planner.slideItem(0, 0), 14);
        at("along the third", planner, 0, 18, 0);
    }

    /** From one end of the greatest container to the other. */
    private static void slideItemFarthest() {
        NestingPlanner planner = Checks.with(Boundary.UNIT);
        planner.setContainer(40, 40);
        planner.place(0, 0, 0);
        for (int direction = 0; direction < 8; direction += 2) {
            checks.due("along the wall " + direction, planner.slideItem(0, direction), 39);
        }
        checks.due("along the diagonal", planner.slideItem(0, 1), 39);
        checks.due("and back", planner.slideItem(0, 5), 39);
        NestingPlanner far = Checks.with("-9,-9-8,-9-8,-8-9,-8;");
        far.setContainer(40, 40);
        far.place(0, 9, 9);
        checks.due("with a place beyond 40", far.slideItem(0, 1), 39);
        at("with a place beyond 40", far, 0, 48, 48);
    }

    // ---- promise 25

    /** "NONE if no item can be moved": there is none. */
    private static void compactOfNoItems() {
        boundary.refused("a new object", NestingPlanner::new, NestingPlanner::compact, Checks.NONE);
        boundary.refused("no items", Boundary::shapes, NestingPlanner::compact, Checks.NONE);
    }

    /** "NONE if no item can be moved": down or to the left; that they can be moved otherwise is nothing. */
    private static void compactThatMovesNothing() {
        String[] layouts = {"0@0,0;", "0@0,0;0@2,0;", "0@2,0;0@0,0;", "0@0,2;0@0,0;", "0@0,0;0@2,0;0@0,2;0@2,2;"};
        for (String layout : layouts) {
            boundary.refused("compact() of " + layout, Boundary.items(layout), NestingPlanner::compact, Checks.NONE);
        }
        // only a diagonal step would be free, and none of that kind is taken
        boundary.refused("over the slanted edge", Boundary.items("1@0,0;3@2,1;3@0,3;3@3,0;"),
            NestingPlanner::compact, Checks.NONE);
        NestingPlanner planner = Boundary.items("0@5,5;0@9,9;").get();
        planner.compact();
        checks.due("compact() again", planner.compact(), Checks.NONE);
        checks.due("that was not saved", planner.undo(), 5);
        at("that was not saved", planner, 0, 5, 5);
    }

    /** One step down, or one to the left, is enough. */
    private static void compactByOneStep() {
        boundary.taken("down", Boundary.items("0@0,1;"), NestingPlanner::compact, 1);
        boundary.taken("to the left", Boundary.items("0@1,0;"), NestingPlanner::compact, 1);
        boundary.taken("the last of eight", () -> {
            NestingPlanner planner = Boundary.items("3@0,0;3@1,0;3@2,0;3@3,0;3@4,0;3@5,0;3@6,0;3@8,0;").get();
            return planner;
        }, NestingPlanner::compact, 1);
        boundary.taken("the first of eight", () -> {
            NestingPlanner planner = Boundary.items("3@8,0;3@0,0;3@1,0;3@2,0;3@3,0;3@4,0;3@5,0;3@6,0;").get();
            return planner;
        }, NestingPlanner::compact, 1);
    }

    /** "is slid down (direction 6) and then to the left (direction 4)". */
    private static void compactDownBeforeLeft() {
        NestingPlanner planner = Boundary.items("0@0,0;0@4,5;").get();
        checks.due("compact()", planner.compact(), 5 + 2);
        at("down to the wall, then to the item", planner, 1, 2, 0);
        NestingPlanner over = Boundary.items("0@0,0;0@1,5;").get();
        checks.due("compact()", over.compact(), 3 + 1);
        at("down to the item, then to the wall", over, 1, 0, 2);
    }

    /** "each item, in the order of the numbers". */
    private static void compactInTheOrderOfTheNumbers() {
        NestingPlanner planner = Boundary.items("0@0,9;0@0,4;").get();
        checks.due("the upper one first", planner.compact(), 3 + 4 + 4);
        at("the upper one", planner, 0, 0, 2);
        at("the lower one", planner, 1, 0, 0);
        NestingPlanner turns = Boundary.items("0@9,0;0@9,5;").get();
        checks.due("the lower one first", turns.compact(), 9 + 5 + 7);
        at("the lower one", turns, 0, 0, 0);
        at("the upper one, which found room", turns, 1, 2, 0);
        NestingPlanner other = Boundary.items("0@9,5;0@9,0;").get();
        checks.due("the upper one first", other.compact(), 3 + 9 + 9);
        at("the upper one, which slid above it and fell", other, 0, 0, 2);
        at("the lower one", other, 1, 0, 0);
    }

    /** "in rounds ..; the rounds end with the first one in which no item moves". */
    private static void compactInRounds() {
        // in each round the first one finds room for one more step down, once the others have moved
        NestingPlanner planner = Boundary.items("3@0,9;3@0,6;3@0,3;").get();
        checks.due("three rounds", planner.compact(), 7 + 5 + 3);
        at("the first", planner, 0, 0, 2);
        at("the second", planner, 1, 0, 1);
        at("the third", planner, 2, 0, 0);
        NestingPlanner eight = Boundary.items("3@0,15;3@0,13;3@0,11;3@0,9;3@0,7;3@0,5;3@0,3;3@0,1;").get();
        checks.due("eight rounds", eight.compact(), 8 + 7 + 6 + 5 + 4 + 3 + 2 + 1);
        at("the first", eight, 0, 0, 7);
        at("the last", eight, 7, 0, 0);
        checks.due("compact() again", eight.compact(), Checks.NONE);
    }

    /** All the steps of eight items count, from the far corner of the greatest container. */
    private static void compactWithEightItems() {
        NestingPlanner planner = Checks.with(Boundary.UNIT);
        planner.setContainer(40, 40);
        for (int item = 0; item < 8; item++) {
            planner.place(0, 39 - item, 39);
        }
        int steps = 0;
        for (int item = 0; item < 8; item++) {
            steps += 39 + (39 - item) - item;
        }
        checks.due("compact()", planner.compact(), steps);
        for (int item = 0; item < 8; item++) {
            at("a row, the first item at the left", planner, item, item, 0);
        }
    }

    /** "as slideItem() does": at the clearance an item does not move. */
    private static void compactAtTheClearance() {
        Supplier<NestingPlanner> setup = () -> {
            NestingPlanner planner = Boundary.items("0@0,0;0@5,0;0@0,5;").get();
            planner.setClearance(3);
            return planner;
        };
        boundary.refused("at the clearance", setup, NestingPlanner::compact, Checks.NONE);
        NestingPlanner planner = setup.get();
        planner.setClearance(2);
        checks.due("one step each", planner.compact(), 2);
        at("one step", planner, 1, 4, 0);
        at("one step", planner, 2, 0, 4);
    }

    // ---- promise 26

    /** "item: number of an item"; "INVALID_ARGUMENT if there is no such item". */
    private static void removeItemArguments() {
        Boundary.Asked remove =
            boundary.ask("removeItem", Boundary::busy, (planner, a) -> planner.removeItem(a[0]), 0);
        remove.takes(0, 0, 1);
        remove.takes(0, 1, 1);
        remove.refusesBeyond(0, 0, 1);
        Boundary.Asked eighth =
            boundary.ask("removeItem of eight", Boundary::eight, (planner, a) -> planner.removeItem(a[0]), 0);
        eighth.takes(0, 0, 7);
        eighth.takes(0, 7, 7);
        eighth.refusesBeyond(0, 0, 7);
    }

    /** No items: there is no item 0. */
    private static void removeItemOfNoItems() {
        boundary.refused("no items", Boundary::shapes, planner -> planner.removeItem(0), Checks.INVALID);
        boundary.refused("a new object", NestingPlanner::new, planner -> planner.removeItem(0), Checks.INVALID);
    }

    /** "The items with greater numbers get numbers that are 1 less": the first, a middle, the last one. */
    private static void removeItemRenumbers() {
        for (int removed = 0; removed < 8; removed++) {
            NestingPlanner planner = Boundary.eight();
            checks.due("removeItem(" + removed + ")", planner.removeItem(removed), 7);
            for (int item = 0; item < 7; item++) {
                at("without " + removed, planner, item, 2 * (item < removed ? item : item + 1), 0);
            }
            checks.due("there is no item 7", planner.itemPlace(7, 0), Checks.INVALID);
            checks.due("its place is free", planner.itemAt(2 * removed, 0), Checks.NONE);
            checks.due("the next one is item 7", planner.place(Boundary.UNIT_SLOT, 2 * removed, 0), 7);
        }
    }

    /** The shape and both coordinates go with the number. */
    private static void removeItemRenumbersAll() {
        int[] xs = {0, 4, 9, 15};
        int[] ys = {1, 5, 10, 17};
        int[] areas = {8, 9, 13, 2};
        int[][] corners = {{2, 3}, {5, 7}, {10, 13}, {16, 18}};
        for (int removed = 0; removed < 4; removed++) {
            NestingPlanner planner = Boundary.items("0@0,1;1@4,5;2@9,10;3@15,17;").get();
            checks.due("removeItem(" + removed + ")", planner.removeItem(removed), 3);
            checks.due("the area of the others", planner.packedDoubleArea(), 32 - areas[removed]);
            for (int item = 0; item < 4; item++) {
                int due = item < removed ? item : item - 1;
                int corner = planner.itemAt(corners[item][0], corners[item][1]);
                checks.due("the corner of " + item, corner, item == removed ? Checks.NONE : due);
                if (item != removed) {
                    at("without " + removed, planner, due, xs[item], ys[item]);
                }
            }
        }
    }

    /** "Returns the number of items then": down to 0, and then there is none to be removed. */
    private static void removeItemUntilNoneIsLeft() {
        NestingPlanner planner = Boundary.eight();
        for (int left = 7; left >= 0; left--) {
            checks.due("removeItem(0)", planner.removeItem(0), left);
            checks.due("itemCount()", planner.itemCount(), left);
        }
        checks.due("removeItem(0)", planner.removeItem(0), Checks.INVALID);
    }
}
