/** "An object is used for at most 512 calls": all of them answer, the 512th too, also the dearest ones. */
final class CallsBoundaryTest {
    private static final Checks checks = new Checks();
    private static final int CALLS = 512;
    /** Two hexagons and a square that reach from -9 to 9. */
    private static final String LARGE =
        "-9,-8 8,-9 9,-8 9,8 8,9 -9,8;-8,-9 7,-9 9,0 7,9 -8,9 -9,0;-9,-9 9,-9 9,9 -9,9;";
    /** Three hexagons that are small, so that eight of them leave many places. */
    private static final String SMALL = "0,01,02,12,21,20,1;1,12,13,23,32,31,2;2,23,24,34,43,42,3;";

    public static void main(String[] args) {
        allCallsAreTextCalls();
        allCallsLoadShapes();
        allCallsCopyShapes();
        allCallsPlaceAndUndo();
        allCallsCountPlaces();
        allCallsCompact();
        allCallsAskOfPairs();
        allCallsAreRefused();
        checks.finish();
    }

    private static void allCallsAreTextCalls() {
        NestingPlanner planner = new NestingPlanner();
        for (int call = 1; call <= CALLS - 1; call++) {
            int due = call <= 150 ? call : Checks.CAPACITY;
            checks.due("appendCharacter, call " + call, planner.appendCharacter(' '), due);
        }
        checks.due("clearText(), the last call", planner.clearText(), 150);
    }

    private static void allCallsLoadShapes() {
        NestingPlanner planner = new NestingPlanner();
        int each = Boundary.UNIT.length() + 2;
        int used = 0;
        for (; used + each <= CALLS; used += each) {
            checks.due("loadShape, call " + (used + each), Checks.load(planner, used % 4, Boundary.UNIT), 1);
        }
        for (; used < CALLS; used++) {
            checks.due("undo(), call " + (used + 1) + "", planner.undo() >= 0 ? 1 : 0, 1);
        }
    }

    private static void allCallsCopyShapes() {
        NestingPlanner planner = Checks.with(LARGE);
        int used = LARGE.length() + 2;
        for (; used < CALLS; used++) {
            checks.due("copyShape, call " + (used + 1), planner.copyShape(0, used % 4, used % 4), 3);
        }
    }

    private static void allCallsPlaceAndUndo() {
        NestingPlanner planner = Checks.with(SMALL);
        int used = SMALL.length() + 2;
        for (; used + 3 <= CALLS; used += 3) {
            checks.due("placeTurned(0), call " + (used + 1), planner.placeTurned(0), 0);
            checks.due("placeBottomLeft(0), call " + (used + 2), planner.placeBottomLeft(0), 1);
            checks.due("setContainer(40,40), call " + (used + 3), planner.setContainer(40, 40), 2);
        }
        checks.due("at most two calls are left", CALLS - used <= 2 ? 1 : 0, 1);
    }

    /** Eight items of three pieces, and a shape of three pieces that looks for a place beside each. */
    private static void allCallsCountPlaces() {
        NestingPlanner planner = Checks.with(SMALL);
        int used = SMALL.length() + 2;
        planner.setContainer(40, 40);
        planner.setClearance(1);
        used += 2;
        for (int item = 0; item < 8; item++) {
            checks.due("place", planner.place(0, 8 + 6 * (item % 4), 8 + 9 * (item / 4)), item);
            used++;
        }
        int due = planner.freePlaces(0);
        used++;
        checks.due("there are some", due > 0 && due < 37 * 37 ? 1 : 0, 1);
        for (; used < CALLS; used++) {
            checks.due("freePlaces(0), call " + (used + 1), planner.freePlaces(0), due);
        }
    }

    private static void allCallsCompact() {
        NestingPlanner planner = Checks.with(Boundary.UNIT);
        int used = Boundary.UNIT.length() + 2;
        planner.setContainer(40, 40);
        used++;
        for (int item = 0; item < 8; item++) {
            planner.place(0, 39, 39 - item);
            used++;
        }
        int due = 0;
        for (; used + 2 <= CALLS; used += 2) {
            int steps = planner.compact();
            due = due == 0 ? steps : due;
            checks.due("compact(), call " + (used + 1), steps, due);
            checks.due("undo(), call " + (used + 2), planner.undo(), 5);
        }
        checks.due("each of the eight was moved by 70 or so", due > 8 * 60 && due < 8 * 80 ? 1 : 0, 1);
    }

    private static void allCallsAskOfPairs() {
        NestingPlanner planner = Checks.with(LARGE);
        int used = LARGE.length() + 2;
        for (; used + 3 <= CALLS; used += 3) {
            checks.due("contact, call " + (used + 1), planner.contact(0, 0, 18, 0), 1);
            checks.due("squaredGap, call " + (used + 2), planner.squaredGap(0, 0, 60, 60, 0), 2 * 42 * 42);
            checks.due("slide, call " + (used + 3), planner.slide(0, 0, 60, 0, 4, 0), 42);
        }
    }

    private static void allCallsAreRefused() {
        NestingPlanner planner = new NestingPlanner();
        for (int call = 1; call <= CALLS; call++) {
            int due = call % 2 == 0 ? Checks.ILLEGAL : Checks.INVALID;
            checks.due("place, call " + call, planner.place(call % 2 == 0 ? 0 : 4, 0, 0), due);
        }
    }
}
