/** Promises 18 to 23 and 29: clearance, container, and all ways to place items. */
final class PlacingTest {
    private static final Checks checks = new Checks();
    private static final int[] NOT_SLOTS = {-1, 4, Integer.MIN_VALUE, Integer.MAX_VALUE};
    private static final String TRIANGLE = "0,03,00,3;";
    private static final String SQUARE = "0,02,02,20,2;";
    private static final String MIDDLE = "-1,-11,-11,1-1,1;";
    private static final String BAR = "0,01,01,30,3;";

    public static void main(String[] args) {
        setClearance();
        clearanceIsASquare();
        setContainer();
        place();
        placeAtTheSides();
        placeKeepsACopy();
        placeWithEightItems();
        placeBottomLeft();
        placeTurned();
        placeTurnedBreaksTies();
        loadLayoutPlaces();
        loadLayoutTellsWhereTheTextIsWrong();
        loadLayoutRefusesItems();
        freePlaces();
        checks.finish();
    }

    private static void at(String what, NestingPlanner planner, int item, int x, int y) {
        checks.due(what + ": x of " + item, planner.itemPlace(item, 0), x);
        checks.due(what + ": y of " + item, planner.itemPlace(item, 1), y);
    }

    private static void setClearance() {
        NestingPlanner planner = Checks.with(SQUARE);
        checks.due("setClearance(5)", planner.setClearance(5), 0);
        checks.due("setClearance(0)", planner.setClearance(0), 5);
        planner.place(0, 0, 0);
        checks.due("one item", planner.setClearance(5), 0);
        checks.due("place too close", planner.place(0, 3, 0), Checks.ILLEGAL);
        planner.setClearance(0);
        checks.due("place(3,0)", planner.place(0, 3, 0), 1);
        checks.due("setClearance(1)", planner.setClearance(1), 0);
        checks.due("setClearance(2)", planner.setClearance(2), Checks.ILLEGAL);
        checks.due("setClearance(-1)", planner.setClearance(-1), Checks.INVALID);
        checks.due("setClearance(6)", planner.setClearance(6), Checks.INVALID);
        checks.due("place(3,2)", planner.place(0, 3, 2), Checks.ILLEGAL);
        checks.due("place(3,3)", planner.place(0, 3, 3), 2);
        at("items stay", planner, 1, 3, 0);
        checks.due("setClearance(1) again", planner.setClearance(1), 1);
        checks.due("setClearance(0)", planner.setClearance(0), 1);
    }

    private static void clearanceIsASquare() {
        NestingPlanner planner = Checks.with(SQUARE, TRIANGLE);
        planner.place(0, 0, 0);
        planner.place(0, 5, 5);
        checks.due("diagonal: 4", planner.setClearance(4), Checks.ILLEGAL);
        checks.due("diagonal: 3", planner.setClearance(3), 0);
        planner.setContainer(20, 20);
        planner.setClearance(1);
        // the slanted edge is moved by 1 to the right and by 1 upward, to x + y = 5
        planner.place(1, 0, 0);
        checks.due("place(2,2)", planner.place(1, 2, 2), Checks.ILLEGAL);
        checks.due("place(2,3)", planner.place(1, 2, 3), 1);
        checks.due("setClearance(2)", planner.setClearance(2), Checks.ILLEGAL);
    }

    private static void setContainer() {
        NestingPlanner planner = Checks.with(SQUARE);
        planner.setClearance(1);
        planner.place(0, 0, 0);
        planner.place(0, 5, 0);
        checks.due("setContainer(0,5)", planner.setContainer(0, 5), Checks.INVALID);
        checks.due("setContainer(5,0)", planner.setContainer(5, 0), Checks.INVALID);
        checks.due("setContainer(41,5)", planner.setContainer(41, 5), Checks.INVALID);
        checks.due("setContainer(5,41)", planner.setContainer(5, 41), Checks.INVALID);
        checks.due("itemCount()", planner.itemCount(), 2);
        checks.due("setContainer(7,4)", planner.setContainer(7, 4), 2);
        checks.due("itemCount()", planner.itemCount(), 0);
        checks.due("setContainer(7,4) again", planner.setContainer(7, 4), 0);
        checks.due("freePlaces(0)", planner.freePlaces(0), 18);
        checks.due("the slots stay", planner.pieceCount(0), 1);
        checks.due("place(5,2)", planner.place(0, 5, 2), 0);
        checks.due("place(3,2)", planner.place(0, 3, 2), Checks.ILLEGAL);
        checks.due("the clearance stays", planner.setClearance(0), 1);
        checks.due("setContainer(40,40)", planner.setContainer(40, 40), 1);
        checks.due("freePlaces(0)", planner.freePlaces(0), 39 * 39);
        checks.due("setContainer(1,1)", planner.setContainer(1, 1), 0);
        checks.due("freePlaces(0)", planner.freePlaces(0), 0);
    }

    private static void place() {
        NestingPlanner planner = Checks.with(TRIANGLE, MIDDLE);
        checks.due("place(0,18,17)", planner.place(0, 18, 17), Checks.ILLEGAL);
        checks.due("place(0,17,18)", planner.place(0, 17, 18), Checks.ILLEGAL);
        checks.due("place(0,-1,0)", planner.place(0, -1, 0), Checks.ILLEGAL);
        checks.due("place(0,0,-1)", planner.place(0, 0, -1), Checks.ILLEGAL);
        checks.due("place(0,17,17)", planner.place(0, 17, 17), 0);
        checks.due("place(0,0,0)", planner.place(0, 0, 0), 1);
        checks.due("place(0,1,1)", planner.place(0, 1, 1), Checks.ILLEGAL);
        checks.due("place(0,1,2)", planner.place(0, 1, 2), 2);
        checks.due("place(1,0,10)", planner.place(1, 0, 10), Checks.ILLEGAL);
        checks.due("place(1,1,10)", planner.place(1, 1, 10), 3);
        at("place", planner, 0, 17, 17);
        at("place", planner, 2, 1, 2);
        at("place", planner, 3, 1, 10);
        for (int slot : NOT_SLOTS) {
            checks.due("place(" + slot + ",..)", planner.place(slot, 9, 9), Checks.INVALID);
        }
        checks.due("x 61", planner.place(0, 61, 0), Checks.INVALID);
        checks.due("x -61", planner.place(0, -61, 0), Checks.INVALID);
        checks.due("y 61", planner.place(0, 0, 61), Checks.INVALID);
        checks.due("y -61", planner.place(0, 0, -61), Checks.INVALID);
        checks.due("x 60", planner.place(0, 60, 60), Checks.ILLEGAL);
        checks.due("y -60", planner.place(0, -60, -60), Checks.ILLEGAL);
        checks.due("an empty slot", planner.place(2, 9, 9), Checks.ILLEGAL);
        checks.due("an empty slot, x 61", planner.place(2, 61, 9), Checks.INVALID);
        checks.due("itemCount()", planner.itemCount(), 4);
    }

    private static void atTheSide(String shape, int turns, int inX, int inY, int outX, int outY) {
        NestingPlanner planner = Checks.with(shape);
        planner.copyShape(0, 0, turns);
        String what = shape + " turned " + turns + " times";
        checks.due("not inside: " + what, planner.place(0, outX, outY), Checks.ILLEGAL);
        checks.due("inside: " + what, planner.place(0, inX, inY), 0);
    }

    /** One vertex alone is on the container's side: the first of the text, another one, the last. */
    private static void placeAtTheSides() {
        atTheSide("0,01,2-1,2;", 0, 1, 0, 1, -1);
        atTheSide("0,01,2-1,2;", 1, 20, 1, 21, 1);
        atTheSide("0,01,2-1,2;", 2, 1, 20, 1, 21);
        atTheSide("0,01,2-1,2;", 3, 0, 1, -1, 1);
        atTheSide("-1,-21,-20,0;", 0, 1, 20, 1, 21);
        atTheSide("-1,-21,-20,0;", 1, 0, 1, -1, 1);
        atTheSide("-1,-21,-20,0;", 2, 1, 0, 1, -1);
        atTheSide("-1,-21,-20,0;", 3, 20, 1, 21, 1);
        atTheSide("1,2-1,20,0;", 0, 1, 0, 1, -1);
        atTheSide("2,-12,10,0;", 0, 0, 1, -1, 1);
    }

    private static void placeKeepsACopy() {
        NestingPlanner planner = Checks.with(SQUARE);
        planner.place(0, 5, 5);
        planner.placeBottomLeft(0);
        Checks.load(planner, 0, "0,09,09,90,9;");
        checks.due("loadShape: area", planner.packedDoubleArea(), 16);
        planner.copyShape(0, 0, 1);
        planner.clearShape(0);
        checks.due("clearShape: area", planner.packedDoubleArea(), 16);
        checks.due("itemAt(7,7)", planner.itemAt(7, 7), 0);
        checks.due("itemAt(8,7)", planner.itemAt(8, 7), Checks.NONE);
    }

    private static void placeWithEightItems() {
        NestingPlanner planner = Checks.with(SQUARE);
        for (int item = 0; item < 8; item++) {
            checks.due("place", planner.place(0, 2 * item, 0), item);
        }
        checks.due("it would fit", planner.place(0, 0, 2), Checks.CAPACITY);
        checks.due("it does not fit", planner.place(0, 1, 1), Checks.ILLEGAL);
        checks.due("an empty slot", planner.place(1, 0, 2), Checks.ILLEGAL);
        checks.due("placeBottomLeft(0)", planner.placeBottomLeft(0), Checks.CAPACITY);
        checks.due("placeBottomLeft(1)", planner.placeBottomLeft(1), Checks.ILLEGAL);
        checks.due("placeTurned(0)", planner.placeTurned(0), Checks.CAPACITY);
        checks.due("placeTurned(1)", planner.placeTurned(1), Checks.ILLEGAL);
        checks.due("freePlaces(0)", planner.freePlaces(0), 361 - 32);
        checks.due("itemCount()", planner.itemCount(), 8);
        planner.removeItem(3);
        checks.due("place", planner.place(0, 6, 0), 7);
    }

    private static void placeBottomLeft() {
        NestingPlanner planner = Checks.with(SQUARE, MIDDLE);
        planner.setContainer(5, 5);
        int[] due = {0, 0, 2, 0, 0, 2, 2, 2};
        for (int item = 0; item < 4; item++) {
            checks.due("placeBottomLeft(0)", planner.placeBottomLeft(0), item);
            at("placeBottomLeft", planner, item, due[2 * item], due[2 * item + 1]);
        }
        checks.due("no place", planner.placeBottomLeft(0), Checks.NONE);
        checks.due("itemCount()", planner.itemCount(), 4);
        planner.removeItem(1);
        checks.due("placeBottomLeft(1)", planner.placeBottomLeft(1), 3);
        at("placeBottomLeft(1)", planner, 3, 3, 1);
        checks.due("no place", planner.placeBottomLeft(1), Checks.NONE);
        // two steps to the right for the clearance
        planner.setContainer(9, 9);
        planner.setClearance(2);
        planner.placeBottomLeft(0);
        checks.due("with clearance", planner.placeBottomLeft(0), 1);
        at("with clearance", planner, 1, 4, 0);
        checks.due("an empty slot", planner.placeBottomLeft(2), Checks.ILLEGAL);
        for (int slot : NOT_SLOTS) {
            checks.due("placeBottomLeft(" + slot + ")", planner.placeBottomLeft(slot), Checks.INVALID);
        }
        planner.setContainer(1, 1);
        checks.due("too small", planner.placeBottomLeft(0), Checks.NONE);
        planner.setContainer(2, 2);
        checks.due("just large enough", planner.placeBottomLeft(0), 0);
        planner.setContainer(2, 6);
        planner.place(0, 0, 0);
        checks.due("the topmost row", planner.placeBottomLeft(0), 1);
        at("the topmost row", planner, 1, 0, 4);
    }

    private static void placeTurned() {
        NestingPlanner planner = Checks.with(BAR);
        // one turn and three turns lie alike: the smaller number is taken
        checks.due("placeTurned(0)", planner.placeTurned(0), 0);
        at("lying", planner, 0, 3, 0);
        checks.due("top", planner.boundingBox(3), 1);
        checks.due("right", planner.boundingBox(2), 3);
        checks.due("the slot is not turned", planner.hullVertex(0, 2, 1), 3);
        planner.setContainer(2, 9);
        checks.due("upright", planner.placeTurned(0), 0);
        at("upright", planner, 0, 0, 0);
        checks.due("a second one", planner.placeTurned(0), 1);
        at("upright", planner, 1, 1, 0);
        planner.setContainer(2, 2);
        checks.due("too small", planner.placeTurned(0), Checks.NONE);
        checks.due("itemCount()", planner.itemCount(), 0);
        checks.due("an empty slot", planner.placeTurned(2), Checks.ILLEGAL);
        for (int slot : NOT_SLOTS) {
            checks.due("placeTurned(" + slot + ")", planner.placeTurned(slot), Checks.INVALID);
        }
    }

    /** Of equal tops the smallest right side is taken, although its number of turns is greater. */
    private static void placeTurnedBreaksTies() {
        NestingPlanner planner = Checks.with("0,02,00,2;");
        planner.placeTurned(0);
        at("no turn", planner, 0, 0, 0);
        checks.due("placeTurned(0)", planner.placeTurned(0), 1);
        at("two turns", planner, 1, 2, 2);
        checks.due("right", planner.boundingBox(2), 2);
        checks.due("placeTurned(0)", planner.placeTurned(0), 2);
        at("no turn again", planner, 2, 2, 0);
        // the smallest top counts more than the right side
        NestingPlanner bars = Checks.with(BAR, SQUARE);
        bars.setContainer(20, 4);
        bars.place(1, 0, 0);
        bars.placeTurned(0);
        checks.due("right beside the square", bars.boundingBox(2), 5);
        checks.due("the bar's area is low", bars.itemAt(5, 1), 1);
    }

    private static NestingPlanner squareAndMiddle() {
        return Checks.with(SQUARE, MIDDLE);
    }

    /** Reads a layout with one item before; it stays, and the text too, if the layout is refused. */
    private static NestingPlanner layout(String text, int due) {
        NestingPlanner planner = squareAndMiddle();
        planner.place(0, 15, 15);
        checks.due("loadLayout of '" + text + "'", Checks.layout(planner, text), due);
        checks.due("itemCount() after '" + text + "'", planner.itemCount(), due < 0 ? 1 : due);
        checks.due("clearText() after '" + text + "'", planner.clearText(), due < 0 ? text.length() : 0);
        if (due < 0) {
            at("after '" + text + "'", planner, 0, 15, 15);
        }
        return planner;
    }

    private static void loadLayoutPlaces() {
        layout("", 0);
        layout("   ", 0);
        at("one", layout("0@0,0;", 1), 0, 0, 0);
        at("spaces", layout("  0 @ 3 , 4 ;  ", 1), 0, 3, 4);
        at("two digits", layout("0@18,10;", 1), 0, 18, 10);
        at("minus 0", layout("0@-0,-0;", 1), 0, 0, 0);
        NestingPlanner planner = layout("0@0,0;1@3,1;0@2,2;", 3);
        at("three", planner, 0, 0, 0);
        at("three", planner, 1, 3, 1);
        at("three", planner, 2, 2, 2);
        checks.due("their areas", planner.packedDoubleArea(), 24);
        // at the place of the item that was there
        at("in place of it", layout("0@15,15;", 1), 0, 15, 15);
        layout("0@0,0;0@2,0;0@4,0;0@6,0;0@8,0;0@10,0;0@12,0;0@14,0;", 8);
        NestingPlanner negative = Checks.with("9,98,98,8;", "9,97,99,7;");
        checks.due("negative places", Checks.layout(negative, "0@-8,-8;1@-7,1;1@ -5,-7;"), 3);
        at("negative places", negative, 0, -8, -8);
        at("negative places", negative, 1, -7, 1);
        at("negative places", negative, 2, -5, -7);
    }

    private static void loadLayoutTellsWhereTheTextIsWrong() {
        layout("x", -10);
        layout(" x", -11);
        layout(";", -10);
        layout("@", -10);
        layout("-0@0,0;", -10);
        layout("4@0,0;", -10);
        layout("9@0,0;", -10);
        layout("/@0,0;", -10);
        layout("00@0,0;", -11);
        layout("0 0@0,0;", -12);
        layout("0,0,0;", -11);
        layout("0@,0;", -12);
        layout("0@+1,0;", -12);
        layout("0@--1,0;", -13);
        layout("0@00,0;", -13);
        layout("0@01,0;", -13);
        layout("0@-01,0;", -14);
        layout("0@- 1,0;", -13);
        layout("0@1 1,0;", -14);
        layout("0@123,0;", -14);
        layout("0@0;", -13);
        layout("0@0,;", -14);
        layout("0@0,00;", -15);
        layout("0@0,- 1;", -15);
        layout("0@0,1 1;", -16);
        layout("0@0,123;", -16);
        layout("0@0,0,", -15);
        layout("0@0,0@", -15);
        layout("0@0,0;x", -16);
        layout("0@0,0;;", -16);
        layout("0@0,0;  4", -18);
        // the text ends inside an item
        layout("0", -11);
        layout("0 ", -12);
        layout("0@", -12);
        layout("0@-", -13);
        layout("0@- ", -13);
        layout("0@1", -13);
        layout("0@12 ", -15);
        layout("0@0,", -14);
        layout("0@0,0", -15);
        layout("0@0,0 ", -16);
        layout("0@0,0;1", -17);
        // wrong behind an item that cannot be placed
        layout("3@0,0;x", -16);
        layout("0@99,99;0@0", -21);
    }

    private static void loadLayoutRefusesItems() {
        layout("3@0,0;", Checks.ILLEGAL);
        layout("0@19,0;", Checks.ILLEGAL);
        layout("0@0,19;", Checks.ILLEGAL);
        layout("0@-1,0;", Checks.ILLEGAL);
        layout("0@99,-99;", Checks.ILLEGAL);
        layout("0@0,0;0@1,1;", Checks.ILLEGAL);
        layout("0@0,0;0@2,0;0@0,0;", Checks.ILLEGAL);
        layout("0@0,0;0@2,0;0@4,0;0@6,0;0@8,0;0@10,0;0@12,0;0@14,0;0@0,2;", Checks.ILLEGAL);
        layout("0@0,0;".repeat(25), Checks.ILLEGAL);
        NestingPlanner planner = squareAndMiddle();
        planner.setClearance(1);
        checks.due("too close", Checks.layout(planner, "0@0,0;0@2,0;"), Checks.ILLEGAL);
        checks.due("not too close", Checks.layout(planner, "0@0,0;0@3,0;"), 2);
    }

    private static void freePlaces() {
        NestingPlanner planner = Checks.with(SQUARE, MIDDLE);
        checks.due("freePlaces(0)", planner.freePlaces(0), 361);
        checks.due("freePlaces(1)", planner.freePlaces(1), 361);
        planner.place(0, 0, 0);
        checks.due("beside an item", planner.freePlaces(0), 357);
        planner.setClearance(1);
        checks.due("with clearance", planner.freePlaces(0), 352);
        planner.place(0, 9, 9);
        checks.due("beside two items", planner.freePlaces(0), 352 - 25);
        checks.due("the other shape", planner.freePlaces(1), 352 - 25);
        checks.due("itemCount()", planner.itemCount(), 2);
        checks.due("an empty slot", planner.freePlaces(2), Checks.ILLEGAL);
        for (int slot : NOT_SLOTS) {
            checks.due("freePlaces(" + slot + ")", planner.freePlaces(slot), Checks.INVALID);
        }
        // eight items of three pieces each, and three pieces that look for a place
        Checks.load(planner, 2, "0,01,01,10,1;1,02,02,11,1;2,03,03,12,1;");
        planner.setClearance(0);
        planner.setContainer(20, 20);
        for (int item = 0; item < 8; item++) {
            planner.place(2, 0, 2 * item);
        }
        checks.due("three pieces", planner.freePlaces(2), 18 * 20 - 8 * 3);
        planner.setContainer(2, 2);
        checks.due("one place", planner.freePlaces(0), 1);
        planner.place(0, 0, 0);
        checks.due("no place", planner.freePlaces(0), 0);
        planner.setContainer(40, 1);
        checks.due("too flat", planner.freePlaces(0), 0);
    }
}
