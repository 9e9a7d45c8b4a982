import java.util.function.Supplier;

/**
 * Boundary cases of the container and the clearance, and of the places at which a shape fits: promises
 * 18 to 20 and 29. Above each test stands the sentence of the document that it is for.
 */
final class ContainerBoundaryTest {
    private static final Checks checks = new Checks();
    private static final Boundary boundary = new Boundary(checks);
    private static final int SQUARE = Boundary.SQUARE_SLOT;
    private static final int TRIANGLE = Boundary.TRIANGLE_SLOT;
    private static final int THREE = Boundary.THREE_SLOT;
    private static final int UNIT = Boundary.UNIT_SLOT;

    public static void main(String[] args) {
        clearanceFrom0To5();
        clearanceAtFirst();
        clearanceThatItemsAllow();
        clearanceWithFewItems();
        clearanceOfEachPair();
        clearanceIsASquare();
        clearanceBesideSlantedEdges();
        clearanceOfPieces();
        clearanceErrorsInOrder();
        containerFrom1To40();
        containerAtFirst();
        containerLeastAndGreatest();
        setContainerRemovesAllItems();
        setContainerKeepsTheRest();
        placeArguments();
        placeOfAnEmptySlot();
        placeOnTheBoundary();
        placeWithOneVertexOnTheBoundary();
        placeFarFromTheVertices();
        placeAtTheClearance();
        placeWithoutClearance();
        placeWithEightItems();
        placeErrorsInOrder();
        itemsAreCopies();
        freePlacesArguments();
        freePlacesNoneAndOne();
        freePlacesWithEightItems();
        freePlacesWithClearance();
        checks.finish();
    }

    // ---- promise 18

    /** "clearance: 0 to 5"; "INVALID_ARGUMENT if clearance is out of range". */
    private static void clearanceFrom0To5() {
        Boundary.Asked clearance =
            boundary.ask("setClearance", Boundary::busy, (planner, a) -> planner.setClearance(a[0]), 1);
        clearance.takes(0, 0, 1);
        clearance.refusesBeyond(0, 0, 5);
        boundary.taken("setClearance(5)", Boundary::shapes, planner -> planner.setClearance(5), 0);
        NestingPlanner planner = Boundary.shapes();
        for (int next = 1; next <= 5; next++) {
            checks.due("the previous one", planner.setClearance(next), next - 1);
        }
        checks.due("5 was the greatest", planner.setClearance(6), Checks.INVALID);
        checks.due("and is it still", planner.setClearance(0), 5);
        checks.due("0 is the least", planner.setClearance(-1), Checks.INVALID);
        checks.due("and is it now", planner.setClearance(0), 0);
    }

    /** "The clearance r is 0 to 5 (at first 0)." */
    private static void clearanceAtFirst() {
        NestingPlanner planner = Boundary.items("0@0,0;0@2,0;").get();
        checks.due("items may touch at first", planner.touchingPairs(), 1);
        checks.due("the first clearance", planner.setClearance(0), 0);
    }

    /** A clearance that a layout allows, and the next greater one, that it does not. */
    private static void greatest(String layout, int clearance) {
        Supplier<NestingPlanner> setup = Boundary.items(layout);
        boundary.taken("setClearance(" + clearance + ") of " + layout, setup,
            planner -> planner.setClearance(clearance), 0);
        if (clearance < 5) {
            boundary.refused("setClearance(" + (clearance + 1) + ") of " + layout, setup,
                planner -> planner.setClearance(clearance + 1), Checks.ILLEGAL);
        }
    }

    /** "ILLEGAL_STATE if two items would be too close": not if they are as far apart as it says. */
    private static void clearanceThatItemsAllow() {
        for (int apart = 0; apart <= 5; apart++) {
            int next = 2 + apart;
            greatest("0@0,0;0@" + next + ",0;", apart);
            greatest("0@0,0;0@0," + next + ";", apart);
            greatest("0@0,0;0@" + next + ",1;", apart);
            greatest("0@" + next + ",0;0@0,0;", apart);
            greatest("0@0," + next + ";0@1,0;", apart);
        }
        greatest("0@0,0;0@8,0;", 5);
        NestingPlanner planner = Boundary.items("0@0,0;0@5,0;").get();
        checks.due("setClearance(3)", planner.setClearance(3), 0);
        checks.due("setClearance(4)", planner.setClearance(4), Checks.ILLEGAL);
        checks.due("the clearance is still 3", planner.setClearance(2), 3);
        checks.due("a smaller one is always allowed", planner.setClearance(0), 2);
    }

    /** No item, or one alone, is too close to any: the walls do not matter. */
    private static void clearanceWithFewItems() {
        greatest("", 5);
        greatest("0@0,0;", 5);
        greatest("0@18,18;", 5);
        NestingPlanner planner = Checks.with(Boundary.UNIT);
        planner.setContainer(1, 1);
        planner.setClearance(5);
        checks.due("the item fills the container", planner.place(0, 0, 0), 0);
        checks.due("setClearance(5)", planner.setClearance(5), 5);
    }

    /** "two items": the first two of many, the last two, the first and the last. */
    private static void clearanceOfEachPair() {
        greatest("3@0,0;3@2,0;3@10,0;3@18,0;3@0,9;3@9,9;3@18,9;3@9,18;", 1);
        greatest("3@0,0;3@9,0;3@18,0;3@0,9;3@9,9;3@18,9;3@9,18;3@11,18;", 1);
        greatest("3@0,0;3@9,0;3@18,0;3@0,9;3@9,9;3@18,9;3@9,18;3@2,2;", 1);
        greatest("3@9,0;3@18,0;3@0,9;3@9,9;3@18,9;3@7,7;3@9,18;3@0,0;", 1);
    }

    /** "the square with the corners (-r, -r), (r, -r), (r, r) and (-r, r)": not a circle. */
    private static void clearanceIsASquare() {
        greatest("0@0,0;0@5,5;", 3);
        greatest("0@0,0;0@5,3;", 3);
        greatest("0@0,5;0@5,0;", 3);
        greatest("0@0,0;0@4,5;", 3);
        greatest("0@0,0;0@4,4;", 2);
    }

    /** A slanted edge x + y = 3 is moved by (r, r), to x + y = 3 + 2 r. */
    private static void clearanceBesideSlantedEdges() {
        greatest("1@0,0;1@1,2;", 0);
        greatest("1@0,0;1@2,2;", 0);
        greatest("1@0,0;1@2,3;", 1);
        greatest("1@0,0;1@3,3;", 1);
        greatest("1@0,0;1@3,4;", 2);
        greatest("1@6,6;1@4,3;", 1);
        greatest("1@6,6;1@4,4;", 0);
    }

    /** "for a piece of the fixed one and a piece of the moved one": the piece that is nearest. */
    private static void clearanceOfPieces() {
        greatest("2@0,0;3@3,3;", 0);
        greatest("2@0,0;3@1,1;", 0);
        greatest("2@0,0;3@4,4;", 1);
        greatest("2@0,0;3@4,1;", 1);
        greatest("2@0,0;3@5,2;", 2);
        greatest("3@4,4;2@0,0;", 1);
    }

    /** INVALID_ARGUMENT before ILLEGAL_STATE. */
    private static void clearanceErrorsInOrder() {
        Supplier<NestingPlanner> touching = Boundary.items("0@0,0;0@2,0;");
        boundary.refused("setClearance(6)", touching, planner -> planner.setClearance(6), Checks.INVALID);
        boundary.refused("setClearance(-1)", touching, planner -> planner.setClearance(-1), Checks.INVALID);
        boundary.refused("setClearance(5)", touching, planner -> planner.setClearance(5), Checks.ILLEGAL);
    }

    // ---- promise 19

    /** "width: 1 to 40", "height: 1 to 40"; "INVALID_ARGUMENT if an argument is out of range". */
    private static void containerFrom1To40() {
        Boundary.Asked container = boundary.ask("setContainer", Boundary::busy,
            (planner, a) -> planner.setContainer(a[0], a[1]), 7, 9);
        for (int index = 0; index < 2; index++) {
            container.takes(index, 1, 2);
            container.takes(index, 40, 2);
            container.refusesBeyond(index, 1, 40);
        }
        boundary.refused("both", Boundary::busy, planner -> planner.setContainer(0, 41), Checks.INVALID);
    }

    /** "(at first 20 and 20)". */
    private static void containerAtFirst() {
        boundary.taken("x 19", Boundary::shapes, planner -> planner.place(UNIT, 19, 0), 0);
        boundary.refused("x 20", Boundary::shapes, planner -> planner.place(UNIT, 20, 0), Checks.ILLEGAL);
        boundary.taken("y 19", Boundary::shapes, planner -> planner.place(UNIT, 0, 19), 0);
        boundary.refused("y 20", Boundary::shapes, planner -> planner.place(UNIT, 0, 20), Checks.ILLEGAL);
        boundary.taken("freePlaces", Boundary::shapes, planner -> planner.freePlaces(UNIT), 400);
    }

    /** Width and height are not exchanged, and both may be 1 and 40. */
    private static void containerLeastAndGreatest() {
        int[] sides = {1, 2, 39, 40};
        for (int width : sides) {
            for (int height : sides) {
                NestingPlanner planner = Boundary.shapes();
                checks.due("setContainer", planner.setContainer(width, height), 0);
                checks.due("unit squares", planner.freePlaces(UNIT), width * height);
                checks.due("squares", planner.freePlaces(SQUARE), (width - 1) * (height - 1));
                checks.due("beyond the width", planner.place(UNIT, width, 0), Checks.ILLEGAL);
                checks.due("beyond the height", planner.place(UNIT, 0, height), Checks.ILLEGAL);
                checks.due("in the corner", planner.place(UNIT, width - 1, height - 1), 0);
            }
        }
    }

    /** "Returns the number of items that were removed": 0, 1 and 8. */
    private static void setContainerRemovesAllItems() {
        boundary.taken("no items", Boundary::shapes, planner -> planner.setContainer(20, 20), 0);
        boundary.taken("one item", Boundary.items("0@0,0;"), planner -> planner.setContainer(20, 20), 1);
        NestingPlanner planner = Boundary.eight();
        checks.due("eight items", planner.setContainer(20, 20), 8);
        checks.due("none are left", planner.itemCount(), 0);
        checks.due("removed again", planner.setContainer(20, 20), 0);
        checks.due("there is room for eight again", planner.place(UNIT, 0, 0), 0);
    }

    /** "The clearance stays." So do the slots and the text. */
    private static void setContainerKeepsTheRest() {
        NestingPlanner planner = Boundary.busy();
        checks.due("setContainer", planner.setContainer(4, 4), 2);
        checks.due("slot 2", planner.pieceCount(THREE), 3);
        checks.due("text", planner.clearText(), 6);
        planner.place(UNIT, 0, 0);
        checks.due("too close", planner.place(UNIT, 1, 0), Checks.ILLEGAL);
        checks.due("not too close", planner.place(UNIT, 2, 0), 1);
        checks.due("clearance", planner.setClearance(0), 1);
    }

    // ---- promise 20

    /** "slot: 0 to 3", "x: -60 to 60", "y: -60 to 60"; "INVALID_ARGUMENT if an argument is out of range". */
    private static void placeArguments() {
        Boundary.Asked place = boundary.ask("place", Boundary::busy,
            (planner, a) -> planner.place(a[0], a[1], a[2]), TRIANGLE, 9, 9);
        place.takes(0, 0, 2);
        place.takes(0, 3, 2);
        place.refusesBeyond(0, 0, 3);
        for (int index = 1; index <= 2; index++) {
            place.refuses(index, -60, Checks.ILLEGAL);
            place.refuses(index, 60, Checks.ILLEGAL);
            place.refusesBeyond(index, -60, 60);
        }
    }

    /** "ILLEGAL_STATE if the slot is empty". */
    private static void placeOfAnEmptySlot() {
        for (int slot = 0; slot < 4; slot++) {
            int empty = slot;
            boundary.refused("place(" + slot + ",9,9) of an empty slot", Boundary.lacking(slot),
                planner -> planner.place(empty, 9, 9), Checks.ILLEGAL);
        }
    }

    private static void fits(int slot, int x, int y) {
        boundary.taken("place(" + slot + "," + x + "," + y + ")", Boundary::busy,
            planner -> planner.place(slot, x, y), 2);
    }

    private static void fitsNot(int slot, int x, int y) {
        boundary.refused("place(" + slot + "," + x + "," + y + ")", Boundary::busy,
            planner -> planner.place(slot, x, y), Checks.ILLEGAL);
    }

    /** "all vertices .. are in the container (on its boundary is allowed)": of 15 by 18. */
    private static void placeOnTheBoundary() {
        fits(SQUARE, 13, 9);
        fitsNot(SQUARE, 14, 9);
        fits(SQUARE, 0, 9);
        fitsNot(SQUARE, -1, 9);
        fits(SQUARE, 9, 16);
        fitsNot(SQUARE, 9, 17);
        fits(SQUARE, 9, 0);
        fitsNot(SQUARE, 9, -1);
        fits(SQUARE, 13, 16);
        fitsNot(SQUARE, 14, 17);
        fits(TRIANGLE, 12, 15);
        fitsNot(TRIANGLE, 13, 15);
        fitsNot(TRIANGLE, 12, 16);
        fits(THREE, 12, 15);
        fitsNot(THREE, 13, 15);
        fitsNot(THREE, 12, 16);
    }

    /** "all vertices": one alone is at each of the container's sides, also after turns. */
    private static void placeWithOneVertexOnTheBoundary() {
        int[][] boxes = {{-2, -3, 3, 4}, {-4, -2, 3, 3}, {-3, -4, 2, 3}, {-3, -3, 4, 2}};
        for (int turns = 0; turns < 4; turns++) {
            int asked = turns;
            Supplier<NestingPlanner> setup = () -> {
                NestingPlanner planner = Checks.with("-2,1-1,-33,-21,4;");
                planner.copyShape(0, 0, asked);
                return planner;
            };
            int left = -boxes[turns][0];
            int bottom = -boxes[turns][1];
            int right = 20 - boxes[turns][2];
            int top = 20 - boxes[turns][3];
            int[][] inside = {{left, 10}, {10, bottom}, {right, 10}, {10, top}, {left, bottom}, {right, top}};
            int[][] outside = {{left - 1, 10}, {10, bottom - 1}, {right + 1, 10}, {10, top + 1}};
            for (int[] place : inside) {
                boundary.taken("turned " + turns + ", at " + place[0] + "," + place[1], setup,
                    planner -> planner.place(0, place[0], place[1]), 0);
            }
            for (int[] place : outside) {
                boundary.refused("turned " + turns + ", at " + place[0] + "," + place[1], setup,
                    planner -> planner.place(0, place[0], place[1]), Checks.ILLEGAL);
            }
            boundary.taken("freePlaces, turned " + turns, setup, planner -> planner.freePlaces(0),
                (right - left + 1) * (top - bottom + 1));
        }
    }

    /** The place may be outside the container, if the vertices are not. */
    private static void placeFarFromTheVertices() {
        NestingPlanner planner = Checks.with("8,89,88,9;", "-9,-9-8,-9-9,-8;");
        planner.setContainer(40, 40);
        checks.due("left of -8", planner.place(0, -9, 0), Checks.ILLEGAL);
        checks.due("below -8", planner.place(0, 0, -9), Checks.ILLEGAL);
        checks.due("at -8", planner.place(0, -8, -8), 0);
        checks.due("right of 48", planner.place(1, 49, 40), Checks.ILLEGAL);
        checks.due("above 48", planner.place(1, 40, 49), Checks.ILLEGAL);
        checks.due("at 48", planner.place(1, 48, 48), 1);
        checks.due("left", planner.boundingBox(0), 0);
        checks.due("top", planner.boundingBox(3), 40);
        checks.due("at 0", planner.place(1, 0, 0), Checks.ILLEGAL);
    }

    /** "and it is not too close to any item there": with clearance 1, to the square and the triangle. */
    private static void placeAtTheClearance() {
        fits(UNIT, 3, 0);
        fitsNot(UNIT, 2, 0);
        fits(UNIT, 0, 3);
        fitsNot(UNIT, 0, 2);
        fits(UNIT, 3, 3);
        fitsNot(UNIT, 2, 2);
        fitsNot(UNIT, 4, 4);
        fits(UNIT, 3, 5);
        fitsNot(UNIT, 4, 5);
        fits(UNIT, 9, 5);
        fitsNot(UNIT, 8, 5);
        // its corner is moved to (9, 6) and (6, 9), so its slanted edge to x + y = 15
        fits(UNIT, 7, 8);
        fits(UNIT, 8, 7);
        fitsNot(UNIT, 7, 7);
    }

    /** "for r = 0 .. they are too close exactly if they overlap". */
    private static void placeWithoutClearance() {
        Supplier<NestingPlanner> setup = Boundary.items("0@5,5;1@9,9;");
        int[][] touching = {{7, 5}, {3, 5}, {5, 7}, {5, 3}, {7, 7}, {3, 3}, {7, 3}, {3, 7}};
        for (int[] place : touching) {
            boundary.taken("touching at " + place[0] + "," + place[1], setup,
                planner -> planner.place(SQUARE, place[0], place[1]), 2);
        }
        int[][] overlapping = {{6, 5}, {4, 5}, {5, 6}, {5, 4}, {6, 6}, {4, 4}, {6, 4}, {4, 6}, {5, 5}, {8, 8}};
        for (int[] place : overlapping) {
            boundary.refused("overlapping at " + place[0] + "," + place[1], setup,
                planner -> planner.place(SQUARE, place[0], place[1]), Checks.ILLEGAL);
        }
        boundary.taken("beside the slanted edge", setup, planner -> planner.place(UNIT, 10, 11), 2);
        boundary.refused("on the slanted edge", setup, planner -> planner.place(UNIT, 10, 10), Checks.ILLEGAL);
    }

    /** "At most 8 items can be placed, numbered from 0"; "CAPACITY_EXCEEDED if there are 8 items". */
    private static void placeWithEightItems() {
        NestingPlanner planner = Boundary.shapes();
        for (int item = 0; item < 8; item++) {
            checks.due("item " + item, planner.place(UNIT, 2 * item, 0), item);
        }
        checks.due("a ninth one", planner.place(UNIT, 0, 9), Checks.CAPACITY);
        boundary.refused("a ninth item", Boundary::eight, planner9 -> planner9.place(UNIT, 0, 9), Checks.CAPACITY);
        NestingPlanner again = Boundary.eight();
        again.removeItem(0);
        checks.due("the eighth again", again.place(UNIT, 0, 9), 7);
        checks.due("the ninth again", again.place(UNIT, 9, 9), Checks.CAPACITY);
    }

    /** INVALID_ARGUMENT before ILLEGAL_STATE before CAPACITY_EXCEEDED. */
    private static void placeErrorsInOrder() {
        Supplier<NestingPlanner> eight = () -> {
            NestingPlanner planner = Boundary.eight();
            planner.clearShape(SQUARE);
            return planner;
        };
        Boundary.Asked place = boundary.ask("place with eight items", eight,
            (planner, a) -> planner.place(a[0], a[1], a[2]), UNIT, 9, 9);
        place.refuses(0, UNIT, Checks.CAPACITY);
        place.refuses(0, SQUARE, Checks.ILLEGAL);
        place.refuses(0, 4, Checks.INVALID);
        place.refuses(1, 20, Checks.ILLEGAL);
        place.refuses(1, 61, Checks.INVALID);
        place.refuses(2, 0, Checks.CAPACITY);
        place.refuses(2, -1, Checks.ILLEGAL);
        place.refuses(2, -61, Checks.INVALID);
        Boundary.Asked empty = boundary.ask("place of an empty slot", eight,
            (planner, a) -> planner.place(a[0], a[1], a[2]), SQUARE, 9, 9);
        empty.refuses(1, 61, Checks.INVALID);
        empty.refuses(2, -61, Checks.INVALID);
        boundary.refused("where an item is", eight, planner -> planner.place(UNIT, 2, 0), Checks.ILLEGAL);
    }

    /** "An item is a copy of a shape ..; later changes of the slot do not change it." */
    private static void itemsAreCopies() {
        for (int change = 0; change < 3; change++) {
            NestingPlanner planner = Boundary.items("0@5,5;0@9,9;").get();
            switch (change) {
                case 0: planner.clearShape(SQUARE); break;
                case 1: planner.copyShape(SQUARE, SQUARE, 2); break;
                default: Checks.load(planner, SQUARE, "0,09,00,9;"); break;
            }
            checks.due("itemCount()", planner.itemCount(), 2);
            checks.due("packedDoubleArea()", planner.packedDoubleArea(), 16);
            checks.due("boundingBox(2)", planner.boundingBox(2), 11);
            checks.due("boundingBox(0)", planner.boundingBox(0), 5);
            checks.due("itemAt(7,7)", planner.itemAt(7, 7), 0);
            checks.due("itemAt(4,5)", planner.itemAt(4, 5), Checks.NONE);
            checks.due("freePlaces", planner.freePlaces(UNIT), 400 - 2 * 4);
        }
    }

    // ---- promise 29

    /** "INVALID_ARGUMENT if slot is out of range; ILLEGAL_STATE if the slot is empty." */
    private static void freePlacesArguments() {
        Boundary.Asked free = boundary.ask("freePlaces", Boundary.items("0@0,0;"),
            (planner, a) -> planner.freePlaces(a[0]), 1);
        free.takes(0, 0, 19 * 19 - 4);
        free.takes(0, 3, 400 - 4);
        free.refusesBeyond(0, 0, 3);
        for (int slot = 0; slot < 4; slot++) {
            int empty = slot;
            boundary.refused("freePlaces(" + slot + ") of an empty slot", Boundary.lacking(slot),
                planner -> planner.freePlaces(empty), Checks.ILLEGAL);
        }
    }

    /** No place is 0, not NONE; and one place, if the shape is as large as the container. */
    private static void freePlacesNoneAndOne() {
        NestingPlanner planner = Boundary.shapes();
        planner.setContainer(3, 3);
        checks.due("as large as the container", planner.freePlaces(THREE), 1);
        planner.setContainer(2, 3);
        checks.due("wider than the container", planner.freePlaces(THREE), 0);
        planner.setContainer(3, 2);
        checks.due("higher than the container", planner.freePlaces(THREE), 0);
        planner.setContainer(1, 1);
        checks.due("larger by far", planner.freePlaces(THREE), 0);
        planner.place(UNIT, 0, 0);
        checks.due("the container is full", planner.freePlaces(UNIT), 0);
        NestingPlanner widest = Checks.with("-9,-99,-99,9-9,9;");
        widest.setContainer(18, 18);
        checks.due("the widest shape", widest.freePlaces(0), 1);
        widest.setContainer(40, 40);
        checks.due("the widest shape in the widest container", widest.freePlaces(0), 23 * 23);
        widest.setContainer(17, 18);
        checks.due("one too narrow", widest.freePlaces(0), 0);
    }

    /** "(however many items there are)": eight too. */
    private static void freePlacesWithEightItems() {
        NestingPlanner planner = Boundary.eight();
        checks.due("freePlaces(UNIT)", planner.freePlaces(UNIT), 400 - 8);
        checks.due("freePlaces(SQUARE)", planner.freePlaces(SQUARE), 361 - 15);
        planner.removeItem(7);
        checks.due("freePlaces(UNIT)", planner.freePlaces(UNIT), 400 - 7);
    }

    /** Each clearance takes away one more place on either side. */
    private static void freePlacesWithClearance() {
        NestingPlanner planner = Boundary.items("3@10,10;").get();
        for (int clearance = 0; clearance <= 5; clearance++) {
            planner.setClearance(clearance);
            int side = 1 + 2 * clearance;
            checks.due("freePlaces with clearance " + clearance, planner.freePlaces(UNIT), 400 - side * side);
        }
    }
}
