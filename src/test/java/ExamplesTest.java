/** The five examples of the document. */
final class ExamplesTest {
    private static final Checks checks = new Checks();

    public static void main(String[] args) {
        emptySlotAndNoItems();
        triangleAgainstItself();
        secondTriangleIsTurned();
        textIsNoPiece();
        itemIsSlidAndCompacted();
        checks.finish();
    }

    /** Appends a text and checks each of the lengths that come back. */
    private static void append(NestingPlanner planner, String text) {
        for (int k = 0; k < text.length(); k++) {
            checks.due("appendCharacter", planner.appendCharacter(text.charAt(k)), k + 1);
        }
    }

    private static void emptySlotAndNoItems() {
        NestingPlanner planner = new NestingPlanner();
        checks.due("1: pieceCount(0)", planner.pieceCount(0), 0);
        checks.due("1: loadShape(0)", planner.loadShape(0), -10);
        checks.due("1: clearShape(0)", planner.clearShape(0), -1000002);
        checks.due("1: placeBottomLeft(0)", planner.placeBottomLeft(0), -1000002);
        checks.due("1: compact()", planner.compact(), -1000009);
        checks.due("1: closestPair()", planner.closestPair(), -1000009);
    }

    private static void triangleAgainstItself() {
        NestingPlanner planner = new NestingPlanner();
        append(planner, "0,03,00,3;");
        checks.due("2: loadShape(0)", planner.loadShape(0), 1);
        checks.due("2: contact(0,0,3,0)", planner.contact(0, 0, 3, 0), 1);
        checks.due("2: squaredGap(0,0,4,0,0)", planner.squaredGap(0, 0, 4, 0, 0), 1);
        checks.due("2: sumSize(1,0,0,0,0)", planner.sumSize(1, 0, 0, 0, 0), 6);
        checks.due("2: slide(0,0,9,0,4,0)", planner.slide(0, 0, 9, 0, 4, 0), 6);
    }

    private static void secondTriangleIsTurned() {
        NestingPlanner planner = new NestingPlanner();
        append(planner, "0,02,00,2;");
        checks.due("3: loadShape(0)", planner.loadShape(0), 1);
        checks.due("3: placeBottomLeft(0)", planner.placeBottomLeft(0), 0);
        checks.due("3: placeTurned(0)", planner.placeTurned(0), 1);
        checks.due("3: itemPlace(1,0)", planner.itemPlace(1, 0), 2);
        checks.due("3: touchingPairs()", planner.touchingPairs(), 1);
    }

    private static void textIsNoPiece() {
        NestingPlanner planner = new NestingPlanner();
        append(planner, "0,02,04,0;");
        checks.due("4: loadShape(0)", planner.loadShape(0), -19);
        checks.due("4: clearText()", planner.clearText(), 10);
        checks.due("4: loadShape(0)", planner.loadShape(0), -10);
        checks.due("4: contact(0,0,0,0)", planner.contact(0, 0, 0, 0), -1000002);
    }

    private static void itemIsSlidAndCompacted() {
        NestingPlanner planner = new NestingPlanner();
        append(planner, "0,02,00,2;");
        checks.due("5: loadShape(0)", planner.loadShape(0), 1);
        checks.due("5: place(0,5,5)", planner.place(0, 5, 5), 0);
        checks.due("5: slideItem(0,6)", planner.slideItem(0, 6), 5);
        checks.due("5: compact()", planner.compact(), 5);
        checks.due("5: setClearance(1)", planner.setClearance(1), 0);
        checks.due("5: freePlaces(0)", planner.freePlaces(0), 353);
    }
}
