import java.util.function.Supplier;

/**
 * Boundary cases of placing at the bottom left and of layouts: promises 21 to 23. Above each test
 * stands the sentence of the document that it is for.
 */
final class PlacingBoundaryTest {
    private static final Checks checks = new Checks();
    private static final Boundary boundary = new Boundary(checks);
    private static final int SQUARE = Boundary.SQUARE_SLOT;
    private static final int TRIANGLE = Boundary.TRIANGLE_SLOT;
    private static final int THREE = Boundary.THREE_SLOT;
    private static final int UNIT = Boundary.UNIT_SLOT;
    private static final String DIGITS = "0123456789";
    private static final String BAR = "0,01,01,30,3;";
    private static final String EIGHT = "3@0,0;3@2,0;3@4,0;3@6,0;3@8,0;3@10,0;3@12,0;3@14,0;";

    public static void main(String[] args) {
        slotsOfBoth();
        emptySlots();
        eightItems();
        errorsInOrder();
        bottomLeftSmallestYThenX();
        bottomLeftLastPlace();
        bottomLeftNoPlace();
        turnedSmallestTop();
        turnedSmallestRight();
        turnedSmallestNumberOfTurns();
        turnedOnlyWhereThereIsAPlace();
        turnedNoPlace();
        layoutOfNoItems();
        layoutOfEightAndNine();
        layoutSlots();
        layoutPlaces();
        layoutSpaces();
        layoutWhatMayFollow();
        layoutOffsetOfTheFirstWrongCharacter();
        layoutEndsInsideAnItem();
        layoutOfAnEmptySlot();
        layoutThatDoesNotFit();
        layoutErrorsInOrder();
        layoutInPlaceOfAllPresentItems();
        layoutChangesNothingIfRefused();
        checks.finish();
    }

    private static int call(NestingPlanner planner, boolean turned, int slot) {
        return turned ? planner.placeTurned(slot) : planner.placeBottomLeft(slot);
    }

    private static String name(boolean turned, int slot) {
        return (turned ? "placeTurned(" : "placeBottomLeft(") + slot + ")";
    }

    private static void at(String what, NestingPlanner planner, int item, int x, int y) {
        checks.due(what + ": x of item " + item, planner.itemPlace(item, 0), x);
        checks.due(what + ": y of item " + item, planner.itemPlace(item, 1), y);
    }

    // ---- promises 21 and 22

    /** "slot: 0 to 3"; "INVALID_ARGUMENT if slot is out of range". */
    private static void slotsOfBoth() {
        for (boolean turned : new boolean[] {false, true}) {
            Boundary.Asked asked = boundary.ask(name(turned, 1), Boundary::busy,
                (planner, a) -> call(planner, turned, a[0]), 1);
            asked.takes(0, 0, 2);
            asked.takes(0, 3, 2);
            asked.refusesBeyond(0, 0, 3);
        }
    }

    /** "ILLEGAL_STATE if the slot is empty". */
    private static void emptySlots() {
        for (int slot = 0; slot < 4; slot++) {
            for (boolean turned : new boolean[] {false, true}) {
                int empty = slot;
                boundary.refused(name(turned, slot) + " of an empty slot", Boundary.lacking(slot),
                    planner -> call(planner, turned, empty), Checks.ILLEGAL);
            }
        }
    }

    /** "CAPACITY_EXCEEDED if there are 8 items"; with 7 the item is the eighth. */
    private static void eightItems() {
        for (boolean turned : new boolean[] {false, true}) {
            boundary.refused(name(turned, UNIT) + " with eight items", Boundary::eight,
                planner -> call(planner, turned, UNIT), Checks.CAPACITY);
            NestingPlanner planner = Boundary.shapes();
            for (int item = 0; item < 8; item++) {
                checks.due(name(turned, UNIT), call(planner, turned, UNIT), item);
            }
            checks.due(name(turned, UNIT) + ", the ninth", call(planner, turned, UNIT), Checks.CAPACITY);
            planner.removeItem(7);
            checks.due(name(turned, UNIT) + ", the eighth again", call(planner, turned, UNIT), 7);
        }
    }

    /** INVALID_ARGUMENT before ILLEGAL_STATE before CAPACITY_EXCEEDED before NONE. */
    private static void errorsInOrder() {
        Supplier<NestingPlanner> full = () -> {
            NestingPlanner planner = Boundary.shapes();
            planner.setContainer(8, 1);
            for (int item = 0; item < 8; item++) {
                planner.place(UNIT, item, 0);
            }
            planner.clearShape(TRIANGLE);
            return planner;
        };
        for (boolean turned : new boolean[] {false, true}) {
            Boundary.Asked asked = boundary.ask(name(turned, UNIT) + " of a full container", full,
                (planner, a) -> call(planner, turned, a[0]), UNIT);
            asked.refuses(0, 4, Checks.INVALID);
            asked.refuses(0, -1, Checks.INVALID);
            asked.refuses(0, TRIANGLE, Checks.ILLEGAL);
            asked.refuses(0, UNIT, Checks.CAPACITY);
            asked.refuses(0, SQUARE, Checks.CAPACITY);
            Supplier<NestingPlanner> seven = () -> {
                NestingPlanner planner = full.get();
                planner.removeItem(3);
                return planner;
            };
            Boundary.Asked there = boundary.ask(name(turned, UNIT) + " with one place", seven,
                (planner, a) -> call(planner, turned, a[0]), UNIT);
            there.takes(0, UNIT, 7);
            there.refuses(0, SQUARE, Checks.NONE);
            there.refuses(0, TRIANGLE, Checks.ILLEGAL);
        }
    }

    /** "the integer place (x, y) with the smallest y, and of these the smallest x, at which it fits". */
    private static void bottomLeftSmallestYThenX() {
        NestingPlanner planner = Boundary.shapes();
        planner.setContainer(5, 4);
        int[][] due = {{0, 0}, {2, 0}, {0, 2}, {2, 2}};
        for (int item = 0; item < 4; item++) {
            checks.due("placeBottomLeft", planner.placeBottomLeft(SQUARE), item);
            at("squares", planner, item, due[item][0], due[item][1]);
        }
        for (int item = 4; item < 8; item++) {
            checks.due("placeBottomLeft", planner.placeBottomLeft(UNIT), item);
            at("units", planner, item, 4, item - 4);
        }
        // the smallest y counts, though a place farther to the left is one higher
        NestingPlanner low = Boundary.items("3@0,0;").get();
        low.placeBottomLeft(UNIT);
        at("beside, not above", low, 1, 1, 0);
        // the place counts, not the vertices: it may be below 0
        NestingPlanner far = Checks.with("8,89,88,9;");
        far.placeBottomLeft(0);
        at("far from 0", far, 0, -8, -8);
        // between items, where there is just room
        NestingPlanner between = Boundary.items("0@0,0;0@4,0;0@9,0;").get();
        between.placeBottomLeft(SQUARE);
        at("between two items", between, 3, 2, 0);
        between.placeBottomLeft(THREE);
        at("between the next two", between, 4, 6, 0);
        between.placeBottomLeft(UNIT);
        at("not in the notch, which is one higher", between, 5, 11, 0);
    }

    /** The only place is the last one: at the right, at the top, or both. */
    private static void bottomLeftLastPlace() {
        NestingPlanner planner = Boundary.shapes();
        planner.setContainer(2, 2);
        planner.place(UNIT, 0, 0);
        planner.place(UNIT, 1, 0);
        planner.place(UNIT, 0, 1);
        checks.due("the last place", planner.placeBottomLeft(UNIT), 3);
        at("the last place", planner, 3, 1, 1);
        checks.due("none is left", planner.placeBottomLeft(UNIT), Checks.NONE);
        planner.setContainer(3, 3);
        checks.due("as large as the container", planner.placeBottomLeft(THREE), 0);
        at("as large as the container", planner, 0, 0, 0);
        planner.setContainer(40, 40);
        planner.setClearance(5);
        planner.place(SQUARE, 33, 33);
        checks.due("with clearance", planner.placeBottomLeft(SQUARE), 1);
        at("with clearance", planner, 1, 0, 0);
        checks.due("beside it", planner.placeBottomLeft(SQUARE), 2);
        at("beside it", planner, 2, 7, 0);
    }

    /** "NONE if there is no such place (nothing changes then)". */
    private static void bottomLeftNoPlace() {
        Supplier<NestingPlanner> small = () -> {
            NestingPlanner planner = Boundary.shapes();
            planner.setContainer(3, 2);
            planner.place(UNIT, 1, 0);
            return planner;
        };
        boundary.refused("an item is in the way", small, planner -> planner.placeBottomLeft(SQUARE), Checks.NONE);
        boundary.refused("too high", small, planner -> planner.placeBottomLeft(TRIANGLE), Checks.NONE);
        Supplier<NestingPlanner> close = () -> {
            NestingPlanner planner = small.get();
            planner.setClearance(1);
            return planner;
        };
        boundary.refused("too close", close, planner -> planner.placeBottomLeft(UNIT), Checks.NONE);
        boundary.taken("not too close", small, planner -> planner.placeBottomLeft(UNIT), 1);
    }

    private static NestingPlanner bar(int width, int height) {
        NestingPlanner planner = Checks.with(BAR, Boundary.SQUARE);
        planner.setContainer(width, height);
        return planner;
    }

    /** "for which the item has the smallest top, that is, the greatest y coordinate of its vertices". */
    private static void turnedSmallestTop() {
        NestingPlanner planner = bar(20, 20);
        checks.due("lying", planner.placeTurned(0), 0);
        checks.due("its top", planner.boundingBox(3), 1);
        // lying beside the square is lower than upright, though much farther to the right
        NestingPlanner beside = bar(40, 20);
        beside.place(1, 0, 0);
        beside.placeTurned(0);
        at("beside the square", beside, 1, 5, 0);
        checks.due("its top", beside.itemAt(5, 1), 1);
    }

    /** "of several the one for which the greatest x coordinate of its vertices is smallest". */
    private static void turnedSmallestRight() {
        NestingPlanner planner = Checks.with("0,02,00,2;");
        planner.placeTurned(0);
        checks.due("placeTurned(0)", planner.placeTurned(0), 1);
        at("two turns, not none", planner, 1, 2, 2);
        checks.due("the greatest x", planner.boundingBox(2), 2);
        // a trapezium on its side: one turn has its slant at the right, three turns at the left
        NestingPlanner slanted = Checks.with("0,02,01,10,1;", Boundary.UNIT);
        slanted.setContainer(20, 1);
        slanted.placeTurned(0);
        checks.due("placeTurned(0)", slanted.placeTurned(0), 1);
        checks.due("the slants lie on each other", slanted.boundingBox(2), 3);
    }

    /** "and of these the smallest number of turns". */
    private static void turnedSmallestNumberOfTurns() {
        // a square lies alike in all four turns, with its place at another corner each time
        NestingPlanner planner = Boundary.shapes();
        planner.placeTurned(SQUARE);
        at("no turn of four", planner, 0, 0, 0);
        // a bar lies alike in the turns 1 and 3, and in 0 and 2
        NestingPlanner lying = bar(20, 20);
        lying.placeTurned(0);
        at("one turn of 1 and 3", lying, 0, 3, 0);
        NestingPlanner upright = bar(1, 20);
        upright.placeTurned(0);
        at("no turn of 0 and 2", upright, 0, 0, 0);
        // lying above a square is as high, and as far to the right, as upright beside it
        NestingPlanner both = bar(3, 4);
        both.place(1, 0, 0);
        both.placeTurned(0);
        at("no turn of 0 to 3", both, 1, 2, 0);
        // the turns count from the shape as it is in the slot
        NestingPlanner corner = Checks.with("0,02,02,20,2;");
        corner.copyShape(0, 0, 3);
        corner.placeTurned(0);
        at("no turn of a turned square", corner, 0, 0, 2);
    }

    /** "Of the turns for which there is such a place": the one that is lower is left out. */
    private static void turnedOnlyWhereThereIsAPlace() {
        NestingPlanner upright = bar(2, 3);
        checks.due("upright only", upright.placeTurned(0), 0);
        checks.due("its top", upright.boundingBox(3), 3);
        NestingPlanner lying = bar(3, 2);
        checks.due("lying only", lying.placeTurned(0), 0);
        checks.due("its top", lying.boundingBox(3), 1);
        // half of the container is taken by a triangle: each turn in turn is the only one with a place
        int[] xs = {0, 2, 2, 0};
        int[] ys = {0, 0, 2, 2};
        for (int turns = 0; turns < 4; turns++) {
            NestingPlanner planner = Checks.with("0,02,00,2;", Boundary.UNIT);
            planner.setContainer(2, 2);
            planner.copyShape(0, 2, turns);
            checks.due("a triangle in the corner", planner.place(2, xs[turns], ys[turns]), 0);
            checks.due("the other half", planner.placeTurned(0), 1);
            at("the other half of " + turns, planner, 1, xs[(turns + 2) % 4], ys[(turns + 2) % 4]);
            checks.due("nothing more", planner.placeTurned(1), Checks.NONE);
        }
    }

    /** "NONE if there is no such place for any turn". */
    private static void turnedNoPlace() {
        Supplier<NestingPlanner> small = () -> bar(2, 2);
        boundary.refused("a bar in 2 by 2", small, planner -> planner.placeTurned(0), Checks.NONE);
        Supplier<NestingPlanner> taken = () -> {
            NestingPlanner planner = bar(3, 3);
            planner.place(1, 0, 0);
            planner.setClearance(1);
            return planner;
        };
        boundary.refused("too close in each turn", taken, planner -> planner.placeTurned(0), Checks.NONE);
        boundary.taken("not too close", () -> {
            NestingPlanner planner = taken.get();
            planner.setClearance(0);
            return planner;
        }, planner -> planner.placeTurned(0), 1);
    }

    // ---- promise 23: the text

    /** Reads a layout on a planner with shapes and two items. */
    private static void reads(String text, int due) {
        boundary.taken("loadLayout of '" + text + "'", Boundary.typed(text), NestingPlanner::loadLayout, due);
    }

    private static void wrong(String text, int position) {
        boundary.refused("loadLayout of '" + text + "'", Boundary.typed(text), NestingPlanner::loadLayout,
            -10 - position);
    }

    private static void cannotBePlaced(String text) {
        boundary.refused("loadLayout of '" + text + "'", Boundary.typed(text), NestingPlanner::loadLayout,
            Checks.ILLEGAL);
    }

    /** "any number of items, perhaps none". */
    private static void layoutOfNoItems() {
        reads("", 0);
        reads(" ", 0);
        reads(" ".repeat(150), 0);
        NestingPlanner planner = Boundary.typed("  ").get();
        checks.due("no items", planner.loadLayout(), 0);
        checks.due("the present ones are gone", planner.itemCount(), 0);
        checks.due("the text is empty", planner.clearText(), 0);
        checks.due("it can be undone", planner.undo(), 5);
        checks.due("the items are there again", planner.itemCount(), 2);
        boundary.taken("on a new object", NestingPlanner::new, NestingPlanner::loadLayout, 0);
    }

    /** "or it would be a ninth item": eight are placed. */
    private static void layoutOfEightAndNine() {
        NestingPlanner planner = Boundary.typed(EIGHT).get();
        checks.due("eight items", planner.loadLayout(), 8);
        checks.due("eight items", planner.itemCount(), 8);
        at("the last one", planner, 7, 14, 0);
        cannotBePlaced(EIGHT + "3@16,0;");
        cannotBePlaced(EIGHT + "3@16,0;3@18,0;");
        cannotBePlaced("3@0,0;".repeat(25));
        // the lower left corner is free, so each of the nine would fit alone
        cannotBePlaced("3@0,9;3@2,9;3@4,9;3@6,9;3@8,9;3@10,9;3@12,9;3@14,9;3@9,14;");
        cannotBePlaced("3@0,9;3@2,9;3@4,9;3@6,9;3@8,9;3@10,9;3@12,9;3@14,9;0@0,0;");
        // the two present ones do not count, nor do they where they are refused
        NestingPlanner refused = Boundary.typed(EIGHT + "3@16,0;").get();
        checks.due("nine items", refused.loadLayout(), Checks.ILLEGAL);
        checks.due("the two stay", refused.itemCount(), 2);
    }

    /** "slot = digit    0 to 3". */
    private static void layoutSlots() {
        for (int slot = 0; slot < 4; slot++) {
            reads(slot + "@9,9;", 1);
        }
        wrong("4@9,9;", 0);
        wrong("9@9,9;", 0);
        wrong("-1@9,9;", 0);
        wrong("00@9,9;", 1);
        wrong("03@9,9;", 1);
        wrong("0@9,9;4@0,0;", 6);
        NestingPlanner planner = Boundary.typed("0@0,0;1@6,0;2@0,6;3@12,0;").get();
        checks.due("one of each slot", planner.loadLayout(), 4);
        checks.due("one of each slot", planner.packedDoubleArea(), 8 + 9 + 13 + 2);
    }

    /** "place = [ "-" ] digit [ digit ]    not beginning with 0 if it has two digits". */
    private static void layoutPlaces() {
        reads("3@0,0;", 1);
        reads("3@-0,-0;", 1);
        reads("3@9,9;", 1);
        reads("3@10,10;", 1);
        reads("3@14,17;", 1);
        wrong("3@00,0;", 3);
        wrong("3@01,0;", 3);
        wrong("3@-00,0;", 4);
        wrong("3@-09,0;", 4);
        wrong("3@0,00;", 5);
        wrong("3@0,05;", 5);
        wrong("3@0,-05;", 6);
        wrong("3@100,0;", 4);
        wrong("3@-100,0;", 5);
        wrong("3@0,100;", 6);
        wrong("3@--1,0;", 3);
        wrong("3@+1,0;", 2);
        wrong("3@0,--1;", 5);
        // they can be read, but nothing fits there
        cannotBePlaced("3@99,0;");
        cannotBePlaced("3@-99,0;");
        cannotBePlaced("3@0,99;");
        cannotBePlaced("3@0,-99;");
        cannotBePlaced("3@-1,0;");
        cannotBePlaced("3@-9,0;");
        cannotBePlaced("3@-10,0;");
        NestingPlanner planner = Checks.with("9,98,98,8;", "-9,-9-8,-9-8,-8;");
        planner.setContainer(40, 40);
        checks.due("below 0, and above 40", Checks.layout(planner, "0@-8,-8;1@48,48;1@47,48;"), 3);
        at("below 0", planner, 0, -8, -8);
        at("above 40", planner, 1, 48, 48);
        at("beside it", planner, 2, 47, 48);
    }

    /** "the two digits and the "-" are not separated by spaces"; "Spaces .. are allowed everywhere else". */
    private static void layoutSpaces() {
        wrong("3@1 0,0;", 4);
        wrong("3@1  0,0;", 5);
        wrong("3@- 1,0;", 3);
        wrong("3@-1 0,0;", 5);
        wrong("3@0,1 0;", 6);
        wrong("3@0,- 1;", 5);
        wrong("3@- ", 3);
        String[] parts = {"3", "@", "10", ",", "0", ";", "3", "@", "-0", ",", "12", ";"};
        for (int at = 0; at <= parts.length; at++) {
            StringBuilder text = new StringBuilder();
            for (int k = 0; k < parts.length; k++) {
                text.append(k == at ? "   " : "").append(parts[k]);
            }
            reads(text.append(at == parts.length ? "   " : "").toString(), 2);
        }
        reads("  " + String.join("  ", parts) + "  ", 2);
        for (int code : new int[] {0, 9, 10, 13, 31, 33, 160}) {
            wrong((char) code + "3@0,0;", 0);
            wrong("3@0" + (char) code + ",0;", 3);
            wrong("3@0,0;" + (char) code, 6);
        }
    }

    /** Behind a text, each of the 256 codes: some go on, some complete it, all others are wrong. */
    private static void follow(String before, String goesOn, String completes, int due) {
        for (int code = 0; code <= 255; code++) {
            int answer = -10 - before.length();
            if (goesOn.indexOf(code) >= 0) {
                answer--;
            } else if (completes.indexOf(code) >= 0) {
                answer = due;
            }
            NestingPlanner planner = Boundary.shapes();
            Checks.type(planner, before + (char) code);
            checks.due("loadLayout of '" + before + "' and " + code, planner.loadLayout(), answer);
        }
    }

    /** "the offset (from 0) of the first character that is not allowed where it stands". */
    private static void layoutWhatMayFollow() {
        follow("", "0123", " ", 0);
        follow(" ", "0123", " ", 0);
        follow("3", "@ ", "", 0);
        follow("3 ", "@ ", "", 0);
        follow("3@", DIGITS + "- ", "", 0);
        follow("3@ ", DIGITS + "- ", "", 0);
        follow("3@-", DIGITS, "", 0);
        follow("3@0", ", ", "", 0);
        follow("3@-0", ", ", "", 0);
        follow("3@1", DIGITS + ", ", "", 0);
        follow("3@-1", DIGITS + ", ", "", 0);
        follow("3@1 ", ", ", "", 0);
        follow("3@10", ", ", "", 0);
        follow("3@10,", DIGITS + "- ", "", 0);
        follow("3@10,-", DIGITS, "", 0);
        follow("3@10,0", " ", ";", 1);
        follow("3@10,1", DIGITS + " ", ";", 1);
        follow("3@10,1 ", " ", ";", 1);
        follow("3@10,10", " ", ";", 1);
        follow("3@10,10;", "0123", " ", 1);
        follow(EIGHT, "0123", " ", 8);
        follow(EIGHT + "3@16,0", " ", ";", Checks.ILLEGAL);
    }

    /** The same, inside a text that was right: each character in turn becomes a wrong one. */
    private static void layoutOffsetOfTheFirstWrongCharacter() {
        String text = " 3 @ 10 , -0 ; 0@2,12; ";
        reads(text, 2);
        for (int at = 0; at < text.length(); at++) {
            wrong(text.substring(0, at) + 'x' + text.substring(at + 1), at);
        }
    }

    /** "If the text ends inside .. an item .., the error position is the length of the text." */
    private static void layoutEndsInsideAnItem() {
        String text = " 3 @ 10 , -0 ; 0@2,12; ";
        for (int length = 0; length <= text.length(); length++) {
            String part = text.substring(0, length);
            if (length <= 1) {
                reads(part, 0);
            } else if (length == 14 || length == 15) {
                reads(part, 1);
            } else if (length >= 22) {
                reads(part, 2);
            } else {
                wrong(part, length);
            }
        }
    }

    // ---- promise 23: the items

    /** "ILLEGAL_STATE if an item cannot be placed (its slot is empty": the first, or the last. */
    private static void layoutOfAnEmptySlot() {
        for (String text : new String[] {"2@9,9;", "2@9,9;3@0,0;", "3@0,0;2@9,9;"}) {
            boundary.refused("loadLayout of '" + text + "', slot 2 is empty", () -> {
                NestingPlanner planner = Boundary.lacking(2).get();
                planner.clearText();
                Checks.type(planner, text);
                return planner;
            }, NestingPlanner::loadLayout, Checks.ILLEGAL);
        }
        boundary.refused("a new object", () -> {
            NestingPlanner planner = new NestingPlanner();
            Checks.type(planner, "0@0,0;");
            return planner;
        }, NestingPlanner::loadLayout, Checks.ILLEGAL);
    }

    /** "its shape does not fit there": in the container of 15 by 18, with clearance 1. */
    private static void layoutThatDoesNotFit() {
        reads("0@13,16;", 1);
        cannotBePlaced("0@14,16;");
        cannotBePlaced("0@13,17;");
        cannotBePlaced("0@-1,0;");
        cannotBePlaced("0@0,-1;");
        reads("0@0,0;0@3,0;", 2);
        cannotBePlaced("0@0,0;0@2,0;");
        cannotBePlaced("0@0,0;0@9,0;0@9,2;");
        reads("0@0,0;0@9,0;0@9,3;", 3);
        cannotBePlaced("0@0,0;0@0,0;");
    }

    /** The error position is named before ILLEGAL_STATE, wherever each of them stands. */
    private static void layoutErrorsInOrder() {
        wrong("0@99,0;x", 7);
        wrong("0@0,0;0@0,0;x", 12);
        wrong("0@0,0;0@0,0;0", 13);
        wrong(EIGHT + "3@16,0;x", EIGHT.length() + 7);
        wrong(EIGHT + "3@16,0", EIGHT.length() + 6);
        wrong("3@0,0;".repeat(24) + "3@0,0x", 149);
        wrong("3@0,0;".repeat(24) + "3@0,00", 149);
        cannotBePlaced("3@0,0;".repeat(24) + "3@0,0;");
    }

    /** "places its items, in order, in place of all present ones. The text becomes empty." */
    private static void layoutInPlaceOfAllPresentItems() {
        // where the present items are, there is room
        NestingPlanner planner = Boundary.typed("1@5,5;0@1,0;0@0,9;").get();
        checks.due("loadLayout", planner.loadLayout(), 3);
        at("in order", planner, 0, 5, 5);
        at("in order", planner, 1, 1, 0);
        at("in order", planner, 2, 0, 9);
        checks.due("the text is empty", planner.clearText(), 0);
        NestingPlanner eight = Boundary.eight();
        checks.due("eight in place of eight", Checks.layout(eight, EIGHT), 8);
        checks.due("one in place of eight", Checks.layout(eight, "0@1,0;"), 1);
        checks.due("only one is left", eight.itemCount(), 1);
        checks.due("only one is left", eight.packedDoubleArea(), 8);
        checks.due("undo()", eight.undo(), 5);
        checks.due("all eight come back", eight.itemCount(), 8);
        at("all eight come back", eight, 7, 14, 0);
    }

    /** "In the last two cases nothing changes, and the text is kept." */
    private static void layoutChangesNothingIfRefused() {
        NestingPlanner planner = Boundary.typed("0@3,3;0@9,9;0@10,9;").get();
        String old = Boundary.seen(planner);
        checks.due("loadLayout", planner.loadLayout(), Checks.ILLEGAL);
        checks.same("the items are as before", Boundary.seen(planner), old);
        checks.due("loadLayout again", planner.loadLayout(), Checks.ILLEGAL);
        checks.due("the text was kept", planner.clearText(), 19);
        Checks.type(planner, "0@3,3;0@9,9");
        checks.due("loadLayout", planner.loadLayout(), -10 - 11);
        checks.same("the items are as before", Boundary.seen(planner), old);
        planner.appendCharacter(';');
        checks.due("the text was kept", planner.loadLayout(), 2);
    }
}
