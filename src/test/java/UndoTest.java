/** Promise 38: each change can be undone, six of them at most, and nothing else counts as one. */
final class UndoTest {
    private static final Checks checks = new Checks();
    private static final String TRIANGLE = "0,03,00,3;";
    private static final String SQUARE = "0,02,02,20,2;";

    public static void main(String[] args) {
        nothingToUndo();
        eachChangeIsUndone();
        sixStatesAreKept();
        failuresSaveNothing();
        questionsSaveNothing();
        textIsNotUndone();
        allItemsComeBack();
        checks.finish();
    }

    private static void nothingToUndo() {
        NestingPlanner planner = new NestingPlanner();
        checks.due("undo()", planner.undo(), Checks.ILLEGAL);
        checks.due("loadShape", Checks.load(planner, 0, SQUARE), 1);
        checks.due("undo()", planner.undo(), 0);
        checks.due("pieceCount(0)", planner.pieceCount(0), 0);
        checks.due("undo()", planner.undo(), Checks.ILLEGAL);
    }

    /** A planner with two shapes and one item, so with three saved states. */
    private static NestingPlanner withItem() {
        NestingPlanner planner = Checks.with(SQUARE, TRIANGLE);
        planner.place(0, 5, 5);
        return planner;
    }

    /** What can be seen of the slots, the container, the clearance and the items. */
    private static String seen(NestingPlanner planner) {
        StringBuilder text = new StringBuilder();
        for (int slot = 0; slot < 4; slot++) {
            text.append(planner.pieceCount(slot)).append(' ');
            text.append(planner.hullSize(slot)).append(' ');
            text.append(planner.extent(slot, 0)).append(' ');
            text.append(planner.extent(slot, 3)).append(' ');
            text.append(planner.freePlaces(slot)).append(' ');
        }
        for (int item = 0; item < planner.itemCount(); item++) {
            text.append(planner.itemPlace(item, 0)).append(' ');
            text.append(planner.itemPlace(item, 1)).append(' ');
        }
        return text.append(planner.packedDoubleArea()).toString();
    }

    private static int change(NestingPlanner planner, int kind) {
        switch (kind) {
            case 0: return Checks.load(planner, 0, TRIANGLE);
            case 1: return planner.clearShape(0);
            case 2: return planner.copyShape(1, 2, 1);
            case 3: return planner.setContainer(10, 12);
            case 4: return planner.setClearance(3);
            case 5: return planner.place(1, 10, 10);
            case 6: return planner.placeBottomLeft(1);
            case 7: return planner.placeTurned(1);
            case 8: return Checks.layout(planner, "1@1,1;0@8,8;");
            case 9: return planner.slideItem(0, 1);
            case 10: return planner.compact();
            default: return planner.removeItem(0);
        }
    }

    private static void eachChangeIsUndone() {
        for (int kind = 0; kind < 12; kind++) {
            NestingPlanner planner = withItem();
            String old = seen(planner);
            int answer = change(planner, kind);
            checks.due("change " + kind + " succeeds", answer >= 0 ? 1 : 0, 1);
            checks.due("change " + kind + " is seen", seen(planner).equals(old) ? 1 : 0, 0);
            checks.due("undo() of " + kind, planner.undo(), 3);
            checks.same("undone " + kind, seen(planner), old);
            checks.due("undo() of place", planner.undo(), 2);
            checks.due("itemCount()", planner.itemCount(), 0);
        }
    }

    private static void sixStatesAreKept() {
        NestingPlanner planner = Checks.with(SQUARE);
        for (int item = 0; item < 8; item++) {
            planner.place(0, 2 * item, 0);
        }
        for (int left = 5; left >= 0; left--) {
            checks.due("undo()", planner.undo(), left);
            checks.due("itemCount()", planner.itemCount(), left + 2);
        }
        checks.due("undo()", planner.undo(), Checks.ILLEGAL);
        checks.due("itemCount()", planner.itemCount(), 2);
        checks.due("place", planner.place(0, 4, 0), 2);
        checks.due("place", planner.place(0, 6, 0), 3);
        checks.due("undo()", planner.undo(), 1);
        checks.due("itemCount()", planner.itemCount(), 3);
    }

    private static void failuresSaveNothing() {
        NestingPlanner planner = Checks.with(SQUARE);
        planner.setContainer(4, 2);
        planner.place(0, 0, 0);
        String old = seen(planner);
        Checks.load(planner, 1, "0,0");
        planner.loadShape(4);
        planner.clearShape(2);
        planner.clearShape(4);
        planner.copyShape(2, 0, 1);
        planner.copyShape(0, 1, 4);
        planner.setContainer(0, 5);
        planner.place(0, 1, 0);
        planner.place(2, 2, 0);
        planner.slideItem(0, 4);
        planner.slideItem(1, 0);
        planner.compact();
        planner.removeItem(1);
        Checks.layout(planner, "0@0,0;0@1,0;");
        Checks.layout(planner, "0@0,0");
        planner.undo();
        checks.due("undone is place", planner.itemCount(), 0);
        planner.place(0, 1, 0);
        checks.due("placeBottomLeft", planner.placeBottomLeft(0), Checks.NONE);
        checks.due("placeTurned", planner.placeTurned(0), Checks.NONE);
        checks.due("undo()", planner.undo(), 2);
        checks.due("itemCount()", planner.itemCount(), 0);
        planner.place(0, 0, 0);
        planner.place(0, 2, 0);
        checks.due("setClearance(1)", planner.setClearance(1), Checks.ILLEGAL);
        checks.due("setClearance(6)", planner.setClearance(6), Checks.INVALID);
        checks.due("undo()", planner.undo(), 3);
        checks.same("undone is the second place", seen(planner), old);
    }

    private static void questionsSaveNothing() {
        NestingPlanner planner = withItem();
        planner.place(0, 9, 9);
        seen(planner);
        planner.contact(0, 1, 3, 3);
        planner.squaredGap(0, 1, 3, 3, 0);
        planner.slide(0, 1, 9, 9, 5, 0);
        planner.itemGap(0, 1, 0);
        planner.closestPair();
        planner.itemAt(5, 5);
        planner.escapes(0, 1);
        planner.removalOrder(1, 1);
        planner.boundingBox(2);
        planner.touchingPairs();
        planner.sumVertex(1, 0, 0, 1, 0, 2);
        checks.due("undo()", planner.undo(), 3);
        checks.due("itemCount()", planner.itemCount(), 1);
    }

    private static void textIsNotUndone() {
        NestingPlanner planner = Checks.with(SQUARE);
        checks.due("the text is empty", planner.clearText(), 0);
        planner.undo();
        checks.due("and stays so", planner.clearText(), 0);
        Checks.load(planner, 0, SQUARE);
        Checks.type(planner, "0@0");
        planner.undo();
        checks.due("what was added stays", planner.clearText(), 3);
    }

    /** Successful calls that change nothing save a state too. */
    private static void allItemsComeBack() {
        NestingPlanner planner = Checks.with(SQUARE, TRIANGLE);
        Checks.layout(planner, "0@0,0;1@4,0;0@8,0;");
        planner.setClearance(1);
        String old = seen(planner);
        checks.due("setClearance(1)", planner.setClearance(1), 1);
        checks.due("an empty layout", Checks.layout(planner, ""), 0);
        checks.due("undo()", planner.undo(), 5);
        checks.same("the layout came back", seen(planner), old);
        checks.due("undo()", planner.undo(), 4);
        checks.same("the same clearance", seen(planner), old);
        checks.due("undo()", planner.undo(), 3);
        checks.due("the clearance before", planner.setClearance(0), 0);
        checks.due("undo()", planner.undo(), 3);
        checks.due("undo()", planner.undo(), 2);
        checks.due("itemCount()", planner.itemCount(), 0);
    }
}
