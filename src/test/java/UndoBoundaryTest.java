import java.util.function.Supplier;
import java.util.function.ToIntFunction;

/**
 * Boundary cases of undo() and of the saved states: promise 38, "Undo" and "Errors". Above each test
 * stands the sentence of the document that it is for.
 */
final class UndoBoundaryTest {
    private static final Checks checks = new Checks();
    private static final Boundary boundary = new Boundary(checks);
    private static final int KINDS = 12;

    public static void main(String[] args) {
        undoOfNothing();
        eachOfTheTwelveSavesOneState();
        savesThoughNothingChanges();
        notSuccessfulIfNone();
        notSuccessfulIfAnError();
        otherCallsSaveNothing();
        sixStates();
        seventhDiscardsTheOldest();
        eachOfTheTwelveMayBeTheSeventh();
        manyMoreThanSix();
        undoMakesRoomAgain();
        undoRestoresTheSlots();
        undoRestoresTheContainer();
        undoRestoresTheClearance();
        undoRestoresTheItems();
        undoLeavesTheText();
        undoIsNotUndone();
        errorCodes();
        checks.finish();
    }

    /** The shapes, two items and a container of its own; six calls before it have saved states. */
    private static NestingPlanner begun() {
        NestingPlanner planner = Boundary.shapes();
        planner.setContainer(16, 17);
        Checks.layout(planner, "0@4,5;1@9,9;");
        return planner;
    }

    /** A square in slot 0 and an item; two states are saved. */
    private static NestingPlanner begunAnew() {
        NestingPlanner planner = Checks.with(Boundary.SQUARE);
        planner.place(0, 4, 5);
        return planner;
    }

    private static String name(int kind) {
        return new String[] {"loadShape", "clearShape", "copyShape", "setContainer", "setClearance", "place",
            "placeBottomLeft", "placeTurned", "loadLayout", "slideItem", "compact", "removeItem"}[kind];
    }

    /** One of the twelve calls that save a state, with success. */
    private static int change(NestingPlanner planner, int kind) {
        switch (kind) {
            case 0: return Checks.load(planner, 3, Boundary.THREE);
            case 1: return planner.clearShape(0);
            case 2: return planner.copyShape(0, 2, 1);
            case 3: return planner.setContainer(11, 12);
            case 4: return planner.setClearance(2);
            case 5: return planner.place(0, 0, 9);
            case 6: return planner.placeBottomLeft(0);
            case 7: return planner.placeTurned(0);
            case 8: return Checks.layout(planner, "0@3,3;0@6,6;");
            case 9: return planner.slideItem(0, 1);
            case 10: return planner.compact();
            default: return planner.removeItem(0);
        }
    }

    /** "ILLEGAL_STATE if there is none": at first, and when all are restored. */
    private static void undoOfNothing() {
        boundary.refused("a new object", NestingPlanner::new, NestingPlanner::undo, Checks.ILLEGAL);
        boundary.refused("a text alone", () -> {
            NestingPlanner planner = new NestingPlanner();
            Checks.type(planner, Boundary.SQUARE);
            return planner;
        }, NestingPlanner::undo, Checks.ILLEGAL);
        boundary.refused("all is undone", () -> {
            NestingPlanner planner = Checks.with(Boundary.SQUARE);
            planner.undo();
            return planner;
        }, NestingPlanner::undo, Checks.ILLEGAL);
        boundary.taken("one state", () -> Checks.with(Boundary.SQUARE), NestingPlanner::undo, 0);
        boundary.taken("two states", UndoBoundaryTest::begunAnew, NestingPlanner::undo, 1);
        boundary.taken("six states", UndoBoundaryTest::begun, NestingPlanner::undo, 5);
    }

    /** "Every successful call of loadShape(), .. saves the state that preceded it". */
    private static void eachOfTheTwelveSavesOneState() {
        for (int kind = 0; kind < KINDS; kind++) {
            NestingPlanner planner = begunAnew();
            String old = Boundary.seen(planner);
            checks.due(name(kind) + " succeeds", change(planner, kind) >= 0 ? 1 : 0, 1);
            checks.due(name(kind) + " changes what is seen", Boundary.seen(planner).equals(old) ? 0 : 1, 1);
            checks.due(name(kind) + " has saved one state", planner.undo(), 2);
            checks.same(name(kind) + " is undone", Boundary.seen(planner), old);
            checks.due("and no state besides", planner.undo(), 1);
            checks.due("the item is undone", planner.itemCount(), 0);
        }
    }

    private static void saves(String what, ToIntFunction<NestingPlanner> call, int due) {
        NestingPlanner planner = begunAnew();
        String old = Boundary.seen(planner);
        checks.due(what, call.applyAsInt(planner), due);
        checks.due(what + " has saved a state", planner.undo(), 2);
        checks.same(what + " is undone", Boundary.seen(planner), old);
    }

    /** "Every successful call": also if the state afterwards is the same as before. */
    private static void savesThoughNothingChanges() {
        saves("the same clearance", planner -> planner.setClearance(0), 0);
        saves("the same shape", planner -> Checks.load(planner, 0, Boundary.SQUARE), 1);
        saves("a copy to itself", planner -> planner.copyShape(0, 0, 0), 1);
        saves("the same layout", planner -> Checks.layout(planner, "0@4,5;"), 1);
        NestingPlanner planner = new NestingPlanner();
        checks.due("the same container", planner.setContainer(20, 20), 0);
        checks.due("a layout of no items", planner.loadLayout(), 0);
        checks.due("two states", planner.undo(), 1);
        checks.due("two states", planner.undo(), 0);
    }

    /** "(A call that returns NONE is not successful here.)" */
    private static void notSuccessfulIfNone() {
        Supplier<NestingPlanner> full = () -> {
            NestingPlanner planner = Checks.with(Boundary.SQUARE, Boundary.TRIANGLE);
            planner.setContainer(2, 2);
            planner.place(0, 0, 0);
            return planner;
        };
        boundary.refused("placeBottomLeft", full, planner -> planner.placeBottomLeft(0), Checks.NONE);
        boundary.refused("placeTurned", full, planner -> planner.placeTurned(1), Checks.NONE);
        boundary.refused("slideItem", full, planner -> planner.slideItem(0, 0), Checks.NONE);
        boundary.refused("compact", full, NestingPlanner::compact, Checks.NONE);
        NestingPlanner planner = full.get();
        planner.placeBottomLeft(0);
        planner.placeTurned(0);
        planner.slideItem(0, 3);
        planner.compact();
        checks.due("the item's state is the last one", planner.undo(), 3);
        checks.due("the item is undone", planner.itemCount(), 0);
        // with six saved states, none of them is discarded
        NestingPlanner six = Boundary.shapes();
        six.setContainer(2, 2);
        six.place(0, 0, 0);
        six.compact();
        six.slideItem(0, 1);
        six.placeTurned(1);
        six.placeBottomLeft(1);
        for (int left = 5; left >= 0; left--) {
            checks.due("all six are there", six.undo(), left);
        }
        checks.due("the first one is a new object's", six.pieceCount(0), 0);
    }

    /** "A method that returns an error code changes nothing": each of the twelve, with six saved states. */
    private static void notSuccessfulIfAnError() {
        Supplier<NestingPlanner> setup = UndoBoundaryTest::begun;
        boundary.refused("loadShape", setup, planner -> planner.loadShape(0), -10);
        boundary.refused("clearShape", setup, planner -> planner.clearShape(4), Checks.INVALID);
        boundary.refused("clearShape", Boundary.lacking(0), planner -> planner.clearShape(0), Checks.ILLEGAL);
        boundary.refused("copyShape", Boundary.lacking(0), planner -> planner.copyShape(0, 1, 0), Checks.ILLEGAL);
        boundary.refused("setContainer", setup, planner -> planner.setContainer(41, 1), Checks.INVALID);
        boundary.refused("setClearance", setup, planner -> planner.setClearance(5), Checks.ILLEGAL);
        boundary.refused("place", setup, planner -> planner.place(0, 4, 4), Checks.ILLEGAL);
        boundary.refused("placeBottomLeft", setup, planner -> planner.placeBottomLeft(4), Checks.INVALID);
        boundary.refused("placeTurned", setup, planner -> planner.placeTurned(-1), Checks.INVALID);
        boundary.refused("loadLayout", Boundary.typed("0@0,0;0@0,0;"), NestingPlanner::loadLayout, Checks.ILLEGAL);
        boundary.refused("slideItem", setup, planner -> planner.slideItem(2, 0), Checks.INVALID);
        boundary.refused("removeItem", setup, planner -> planner.removeItem(2), Checks.INVALID);
    }

    /** Only the twelve calls save a state. */
    private static void otherCallsSaveNothing() {
        NestingPlanner planner = begunAnew();
        planner.appendCharacter('x');
        planner.clearText();
        Boundary.seen(planner);
        planner.doubleArea(0, 0);
        planner.hullSize(0);
        planner.hullVertex(0, 0, 0);
        planner.sumSize(0, 0, 0, 0, 0);
        planner.sumVertex(0, 0, 0, 0, 0, 0);
        planner.sumDoubleArea(0, 0, 0, 0);
        planner.contact(0, 0, 1, 1);
        planner.squaredGap(0, 0, 9, 9, 0);
        planner.slide(0, 0, 9, 0, 4, 0);
        planner.itemGap(0, 1, 0);
        planner.closestPair();
        planner.itemAt(4, 5);
        planner.escapes(0, 0);
        planner.removalOrder(0, 0);
        planner.touchingPairs();
        checks.due("two states", planner.undo(), 1);
        checks.due("undo() saves nothing", planner.undo(), 0);
        checks.due("none is left", planner.undo(), Checks.ILLEGAL);
    }

    private static int copies(NestingPlanner planner, int count) {
        int last = 0;
        for (int k = 0; k < count; k++) {
            last = planner.setClearance((k + 1) % 6);
        }
        return last;
    }

    /** "At most 6 states are saved": six are all kept. */
    private static void sixStates() {
        NestingPlanner planner = new NestingPlanner();
        checks.due("the sixth", copies(planner, 6), 5);
        for (int left = 5; left >= 0; left--) {
            checks.due("undo()", planner.undo(), left);
        }
        checks.due("none is left", planner.undo(), Checks.ILLEGAL);
        checks.due("the first clearance is back", planner.setClearance(0), 0);
    }

    /** "when a seventh is saved, the oldest one is discarded". */
    private static void seventhDiscardsTheOldest() {
        NestingPlanner planner = new NestingPlanner();
        copies(planner, 7);
        for (int left = 5; left >= 0; left--) {
            checks.due("undo()", planner.undo(), left);
        }
        checks.due("none is left", planner.undo(), Checks.ILLEGAL);
        checks.due("the first clearance is not back", planner.setClearance(0), 1);
        // each of the six that are kept is the right one
        NestingPlanner slow = Checks.with(Boundary.UNIT);
        for (int x = 0; x < 8; x++) {
            slow.place(0, 2 * x, 0);
        }
        for (int left = 5; left >= 0; left--) {
            checks.due("undo()", slow.undo(), left);
            checks.due("itemCount()", slow.itemCount(), left + 2);
            checks.due("the last item", slow.itemPlace(left + 1, 0), 2 * (left + 1));
        }
        checks.due("none is left", slow.undo(), Checks.ILLEGAL);
        checks.due("two items cannot be undone", slow.itemCount(), 2);
    }

    /** The seventh may be a call of any of the twelve methods. */
    private static void eachOfTheTwelveMayBeTheSeventh() {
        for (int kind = 0; kind < KINDS; kind++) {
            NestingPlanner planner = begun();
            String old = Boundary.seen(planner);
            checks.due(name(kind) + " succeeds", change(planner, kind) >= 0 ? 1 : 0, 1);
            checks.due(name(kind) + " is the seventh", planner.undo(), 5);
            checks.same(name(kind) + " is undone", Boundary.seen(planner), old);
            for (int left = 4; left >= 0; left--) {
                checks.due("undo()", planner.undo(), left);
            }
            checks.due("none is left", planner.undo(), Checks.ILLEGAL);
            checks.due("the oldest was discarded", planner.pieceCount(0), 1);
            checks.due("the next one was not", planner.pieceCount(1), 0);
        }
    }

    /** However many are saved, the six last ones are kept. */
    private static void manyMoreThanSix() {
        for (int count = 7; count <= 40; count++) {
            NestingPlanner planner = new NestingPlanner();
            copies(planner, count);
            for (int left = 5; left >= 0; left--) {
                checks.due("undo() after " + count, planner.undo(), left);
            }
            checks.due("none is left after " + count, planner.undo(), Checks.ILLEGAL);
            checks.due("the clearance after " + count, planner.setClearance(0), (count - 6) % 6);
        }
    }

    /** "discards it": there is room for a state again, and no older one is lost. */
    private static void undoMakesRoomAgain() {
        NestingPlanner planner = new NestingPlanner();
        copies(planner, 6);
        for (int k = 0; k < 20; k++) {
            checks.due("undo()", planner.undo(), 5);
            checks.due("setClearance(4)", planner.setClearance(4), 5);
        }
        for (int left = 5; left >= 0; left--) {
            checks.due("undo()", planner.undo(), left);
        }
        checks.due("the first clearance is back", planner.setClearance(0), 0);
        checks.due("all were discarded", planner.undo(), 0);
    }

    // ---- "the state that preceded it: the slots, the container, the clearance and the items"

    /** Slots that were full, empty, and replaced. */
    private static void undoRestoresTheSlots() {
        NestingPlanner planner = Checks.with(Boundary.THREE);
        planner.copyShape(0, 3, 1);
        planner.clearShape(0);
        Checks.load(planner, 0, Boundary.UNIT);
        planner.copyShape(0, 0, 2);
        checks.due("undo()", planner.undo(), 4);
        checks.due("not turned", planner.extent(0, 0), 1);
        checks.due("undo()", planner.undo(), 3);
        checks.due("empty again", planner.pieceCount(0), 0);
        checks.due("undo()", planner.undo(), 2);
        checks.due("three pieces again", planner.pieceCount(0), 3);
        checks.due("the third one too", planner.doubleArea(0, 2), 1);
        checks.due("the copy is still there", planner.extent(3, 2), 3);
        checks.due("undo()", planner.undo(), 1);
        checks.due("the copy is gone", planner.pieceCount(3), 0);
        checks.due("undo()", planner.undo(), 0);
        checks.due("all is empty", planner.pieceCount(0), 0);
    }

    /** Its width, its height, and the items that it held. */
    private static void undoRestoresTheContainer() {
        NestingPlanner planner = Boundary.items("3@0,0;3@18,19;").get();
        checks.due("setContainer(1,40)", planner.setContainer(1, 40), 2);
        planner.placeBottomLeft(Boundary.UNIT_SLOT);
        checks.due("setContainer(40,1)", planner.setContainer(40, 1), 1);
        checks.due("of 40 by 1", planner.freePlaces(Boundary.UNIT_SLOT), 40);
        checks.due("undo()", planner.undo(), 5);
        checks.due("of 1 by 40, with one item", planner.freePlaces(Boundary.UNIT_SLOT), 39);
        checks.due("its item is back", planner.itemCount(), 1);
        checks.due("undo()", planner.undo(), 4);
        checks.due("of 1 by 40, empty", planner.freePlaces(Boundary.UNIT_SLOT), 40);
        checks.due("undo()", planner.undo(), 3);
        checks.due("of 20 by 20, with two items", planner.freePlaces(Boundary.UNIT_SLOT), 398);
        checks.due("the second item is back", planner.itemPlace(1, 1), 19);
    }

    /** Also the clearance is that of the restored state, though no item shows it. */
    private static void undoRestoresTheClearance() {
        NestingPlanner planner = Checks.with(Boundary.UNIT);
        planner.setClearance(5);
        planner.setClearance(2);
        planner.undo();
        checks.due("the clearance is 5", planner.setClearance(1), 5);
        planner.undo();
        planner.undo();
        planner.place(0, 0, 0);
        checks.due("the clearance is 0", planner.place(0, 1, 0), 1);
    }

    /** Items that were moved, removed and renumbered, and whose slots have been changed since. */
    private static void undoRestoresTheItems() {
        NestingPlanner planner = Boundary.items("0@4,4;1@8,8;3@15,15;").get();
        String old = Boundary.seen(planner);
        checks.due("removeItem(0)", planner.removeItem(0), 2);
        checks.due("slideItem(0,5)", planner.slideItem(0, 5), 8);
        checks.due("undo()", planner.undo(), 5);
        checks.due("it is where it was", planner.itemPlace(0, 0), 8);
        checks.due("undo()", planner.undo(), 4);
        checks.same("all three are back", Boundary.seen(planner), old);
        planner.clearShape(0);
        planner.compact();
        checks.due("undo()", planner.undo(), 5);
        checks.due("undo()", planner.undo(), 4);
        checks.same("all three are back, and the slot", Boundary.seen(planner), old);
        checks.due("the first one's corner", planner.itemAt(6, 6), 0);
    }

    /** The text is none of what is saved. */
    private static void undoLeavesTheText() {
        NestingPlanner planner = Checks.with(Boundary.SQUARE);
        checks.due("undo()", planner.undo(), 0);
        checks.due("the text does not come back", planner.clearText(), 0);
        Checks.load(planner, 0, Boundary.SQUARE);
        Checks.type(planner, Boundary.UNIT);
        checks.due("undo()", planner.undo(), 0);
        checks.due("the text stays", planner.loadShape(1), 1);
        checks.due("it was the newer one", planner.doubleArea(1, 0), 2);
        Checks.type(planner, "  ");
        checks.due("loadLayout()", planner.loadLayout(), 0);
        checks.due("undo()", planner.undo(), 1);
        checks.due("nor does a layout's", planner.clearText(), 0);
    }

    /** An undone call is gone: the next undo() restores the state before. */
    private static void undoIsNotUndone() {
        NestingPlanner planner = Checks.with(Boundary.UNIT);
        planner.place(0, 0, 0);
        planner.place(0, 2, 0);
        checks.due("undo()", planner.undo(), 2);
        checks.due("itemCount()", planner.itemCount(), 1);
        checks.due("undo()", planner.undo(), 1);
        checks.due("itemCount()", planner.itemCount(), 0);
        planner.place(0, 9, 9);
        checks.due("undo()", planner.undo(), 1);
        checks.due("the newer one is undone", planner.itemCount(), 0);
        checks.due("undo()", planner.undo(), 0);
        checks.due("pieceCount(0)", planner.pieceCount(0), 0);
        checks.due("undo()", planner.undo(), Checks.ILLEGAL);
    }

    /** The four constants. */
    private static void errorCodes() {
        checks.due("INVALID_ARGUMENT", NestingPlanner.INVALID_ARGUMENT, -1000001);
        checks.due("ILLEGAL_STATE", NestingPlanner.ILLEGAL_STATE, -1000002);
        checks.due("CAPACITY_EXCEEDED", NestingPlanner.CAPACITY_EXCEEDED, -1000003);
        checks.due("NONE", NestingPlanner.NONE, -1000009);
    }
}
