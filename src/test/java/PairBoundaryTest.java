/**
 * Boundary cases of two shapes: promises 15 to 17, contact, squared gap and sliding distance. Above
 * each test stands the sentence of the document that it is for.
 */
final class PairBoundaryTest {
    private static final Checks checks = new Checks();
    private static final Boundary boundary = new Boundary(checks);
    private static final int[] DX = {1, 1, 0, -1, -1, -1, 0, 1};
    private static final int[] DY = {0, 1, 1, 1, 0, -1, -1, -1};
    private static final int SQUARE = Boundary.SQUARE_SLOT;
    private static final int TRIANGLE = Boundary.TRIANGLE_SLOT;
    private static final int THREE = Boundary.THREE_SLOT;
    private static final int UNIT = Boundary.UNIT_SLOT;

    public static void main(String[] args) {
        contactArguments();
        squaredGapArguments();
        slideArguments();
        emptySlots();
        rangesAreNamedBeforeEmptySlots();
        apartTouchOverlap();
        touchAtAVertex();
        touchAlongASlantedEdge();
        onePairOfPiecesIsEnough();
        squaredGapIsZeroUnlessApart();
        squaredGapLeastAndGreatest();
        squaredGapBesideAnEdgeAndAVertex();
        squaredGapInLowestTerms();
        slideRefusesOverlap();
        slideByNothing();
        slideWithoutEnd();
        slideAlongAnEdge();
        slideUntilAnotherPiece();
        slideIsNotStoppedByTouching();
        slideInLowestTerms();
        slideFarthest();
        slideInEachDirection();
        checks.finish();
    }

    // ---- arguments

    /** Slots a and b in arguments 0 and 1, x and y in 2 and 3; they are refused alike in all three. */
    private static void refusesSlotsAndPlaces(Boundary.Asked asked) {
        asked.refusesBeyond(0, 0, 3);
        asked.refusesBeyond(1, 0, 3);
        asked.refusesBeyond(2, -60, 60);
        asked.refusesBeyond(3, -60, 60);
    }

    /** "x: -60 to 60", "y: -60 to 60"; "INVALID_ARGUMENT if an argument is out of range". */
    private static void contactArguments() {
        Boundary.Asked contact = boundary.ask("contact", Boundary::busy,
            (planner, a) -> planner.contact(a[0], a[1], a[2], a[3]), TRIANGLE, TRIANGLE, 2, 0);
        contact.takes(0, 0, 1);
        contact.takes(0, 3, 0);
        contact.takes(1, 0, 2);
        contact.takes(1, 3, 2);
        for (int end : new int[] {-60, 60}) {
            contact.takes(2, end, 0);
            contact.takes(3, end, 0);
        }
        refusesSlotsAndPlaces(contact);
    }

    /** The same of squaredGap; "part: 0 for the numerator, 1 for the denominator". */
    private static void squaredGapArguments() {
        Boundary.Asked gap = boundary.ask("squaredGap", Boundary::busy,
            (planner, a) -> planner.squaredGap(a[0], a[1], a[2], a[3], a[4]), TRIANGLE, TRIANGLE, 3, 3, 0);
        gap.takes(0, 0, 2);
        gap.takes(0, 3, 8);
        gap.takes(1, 0, 9);
        gap.takes(1, 3, 9);
        gap.takes(2, -60, 57 * 57);
        gap.takes(2, 60, 57 * 57 + 3 * 3);
        gap.takes(3, -60, 57 * 57);
        gap.takes(3, 60, 57 * 57 + 3 * 3);
        gap.takes(4, 0, 9);
        gap.takes(4, 1, 2);
        gap.refusesBeyond(4, 0, 1);
        refusesSlotsAndPlaces(gap);
    }

    /** The same of slide; "direction: 0 to 7". */
    private static void slideArguments() {
        Boundary.Asked slide = boundary.ask("slide", Boundary::busy,
            (planner, a) -> planner.slide(a[0], a[1], a[2], a[3], a[4], a[5]), TRIANGLE, TRIANGLE, 3, 3, 5, 0);
        slide.takes(0, 0, 1);
        slide.takes(0, 3, 2);
        slide.takes(1, 0, 3);
        slide.takes(1, 3, 3);
        slide.takes(2, 60, Checks.NONE);
        slide.takes(2, -60, Checks.NONE);
        slide.takes(3, 60, Checks.NONE);
        slide.takes(3, -60, Checks.NONE);
        slide.takes(4, 0, Checks.NONE);
        slide.takes(4, 7, Checks.NONE);
        slide.refusesBeyond(4, 0, 7);
        slide.takes(5, 0, 3);
        slide.takes(5, 1, 2);
        slide.refusesBeyond(5, 0, 1);
        refusesSlotsAndPlaces(slide);
    }

    /** "ILLEGAL_STATE if a or b is empty". */
    private static void emptySlots() {
        for (int slot = 0; slot < 4; slot++) {
            int empty = slot;
            int other = slot == 0 ? 1 : 0;
            for (int turn = 0; turn < 3; turn++) {
                int a = turn == 1 ? other : empty;
                int b = turn == 0 ? other : empty;
                String what = " of " + a + " and " + b + ", " + empty + " is empty";
                boundary.refused("contact" + what, Boundary.lacking(slot),
                    planner -> planner.contact(a, b, 60, -60), Checks.ILLEGAL);
                boundary.refused("squaredGap" + what, Boundary.lacking(slot),
                    planner -> planner.squaredGap(a, b, -60, 60, 1), Checks.ILLEGAL);
                boundary.refused("slide" + what, Boundary.lacking(slot),
                    planner -> planner.slide(a, b, 60, 60, 7, 1), Checks.ILLEGAL);
            }
        }
    }

    /** "If several error codes apply, the one that is named first .. is returned." */
    private static void rangesAreNamedBeforeEmptySlots() {
        Boundary.Asked contact = boundary.ask("contact, a empty", Boundary.lacking(1),
            (planner, a) -> planner.contact(a[0], a[1], a[2], a[3]), 1, 0, 0, 0);
        contact.refuses(1, 4, Checks.INVALID);
        contact.refuses(2, 61, Checks.INVALID);
        contact.refuses(3, -61, Checks.INVALID);
        Boundary.Asked gap = boundary.ask("squaredGap, b empty", Boundary.lacking(1),
            (planner, a) -> planner.squaredGap(a[0], a[1], a[2], a[3], a[4]), 0, 1, 0, 0, 0);
        gap.refuses(0, -1, Checks.INVALID);
        gap.refuses(2, -61, Checks.INVALID);
        gap.refuses(3, 61, Checks.INVALID);
        gap.refuses(4, 2, Checks.INVALID);
        Boundary.Asked slide = boundary.ask("slide, a empty", Boundary.lacking(1),
            (planner, a) -> planner.slide(a[0], a[1], a[2], a[3], a[4], a[5]), 1, 0, 0, 0, 0, 0);
        slide.refuses(1, -1, Checks.INVALID);
        slide.refuses(2, 61, Checks.INVALID);
        slide.refuses(3, 61, Checks.INVALID);
        slide.refuses(4, 8, Checks.INVALID);
        slide.refuses(5, -1, Checks.INVALID);
        Boundary.Asked inside = boundary.ask("slide, they overlap", Boundary::busy,
            (planner, a) -> planner.slide(a[0], a[1], a[2], a[3], a[4], a[5]), 0, 0, 0, 0, 0, 0);
        inside.refuses(0, 4, Checks.INVALID);
        inside.refuses(4, -1, Checks.INVALID);
        inside.refuses(5, 2, Checks.INVALID);
    }

    // ---- promise 15

    private static void contact(int a, int b, int x, int y, int due) {
        boundary.taken("contact(" + a + "," + b + "," + x + "," + y + ")", Boundary::shapes,
            planner -> planner.contact(a, b, x, y), due);
    }

    /** "They overlap if the interiors ..; they touch if they do not overlap, but ..; otherwise .. apart." */
    private static void apartTouchOverlap() {
        for (int direction = 0; direction < 8; direction++) {
            for (int distance = 0; distance <= 5; distance++) {
                int due = distance < 2 ? 2 : distance == 2 ? 1 : 0;
                contact(SQUARE, SQUARE, distance * DX[direction], distance * DY[direction], due);
            }
        }
    }

    /** A vertex on a vertex, or on an edge, is a point in common, but no common interior. */
    private static void touchAtAVertex() {
        contact(TRIANGLE, TRIANGLE, 3, 0, 1);
        contact(TRIANGLE, TRIANGLE, -3, 0, 1);
        contact(TRIANGLE, TRIANGLE, 3, -3, 1);
        contact(TRIANGLE, TRIANGLE, 4, -3, 0);
        contact(TRIANGLE, TRIANGLE, 4, -4, 0);
        contact(TRIANGLE, UNIT, 1, 2, 1);
        contact(TRIANGLE, UNIT, 2, 2, 0);
        contact(TRIANGLE, UNIT, 1, 1, 2);
        contact(UNIT, TRIANGLE, -2, -1, 1);
        contact(UNIT, TRIANGLE, -2, -2, 0);
        contact(UNIT, TRIANGLE, -1, -1, 2);
    }

    /** Slanted edges that lie on each other touch, whole or in part. */
    private static void touchAlongASlantedEdge() {
        NestingPlanner planner = Checks.with(Boundary.TRIANGLE, "3,03,30,3;");
        checks.due("along the whole edge", planner.contact(0, 1, 0, 0), 1);
        checks.due("along a part of it", planner.contact(0, 1, 1, -1), 1);
        checks.due("at the end of it", planner.contact(0, 1, 3, -3), 1);
        checks.due("behind the end of it", planner.contact(0, 1, 4, -4), 0);
        checks.due("one to the left", planner.contact(0, 1, -1, 0), 2);
        checks.due("one to the right", planner.contact(0, 1, 1, 0), 0);
    }

    /** "if the interiors of a piece of A and of a piece of the moved B have a point in common". */
    private static void onePairOfPiecesIsEnough() {
        // in the notch of the L it overlaps the triangle alone; it touches the L at two sides
        contact(THREE, UNIT, 2, 2, 2);
        contact(THREE, UNIT, 1, 1, 1);
        contact(THREE, UNIT, 0, 2, 2);
        contact(THREE, UNIT, 2, 0, 2);
        // it touches the triangle alone, or nothing inside the hull
        contact(THREE, UNIT, 3, 2, 1);
        contact(THREE, UNIT, 3, 3, 0);
        contact(UNIT, THREE, -1, -1, 1);
        contact(UNIT, THREE, -2, -2, 2);
        // touches with all pieces, and overlaps with none
        NestingPlanner planner = Checks.with("0,02,02,20,2;4,06,06,24,2;2,24,24,42,4;", Boundary.SQUARE);
        checks.due("in the gap", planner.contact(0, 1, 2, 0), 1);
        checks.due("half in it", planner.contact(0, 1, 3, 0), 2);
        checks.due("below it", planner.contact(0, 1, 2, -2), 1);
        checks.due("farther below it", planner.contact(0, 1, 2, -3), 0);
    }

    // ---- promise 16

    private static void gap(int a, int b, int x, int y, int above, int below) {
        String what = "squaredGap(" + a + "," + b + "," + x + "," + y + ")";
        boundary.taken(what + " above", Boundary::shapes, planner -> planner.squaredGap(a, b, x, y, 0), above);
        boundary.taken(what + " below", Boundary::shapes, planner -> planner.squaredGap(a, b, x, y, 1), below);
    }

    /** "it is 0 unless they are apart"; "0 is 0 / 1". */
    private static void squaredGapIsZeroUnlessApart() {
        gap(SQUARE, SQUARE, 1, 0, 0, 1);
        gap(SQUARE, SQUARE, 2, 0, 0, 1);
        gap(SQUARE, SQUARE, 3, 0, 1, 1);
        gap(SQUARE, SQUARE, 0, 0, 0, 1);
        gap(SQUARE, SQUARE, -2, -2, 0, 1);
        gap(SQUARE, SQUARE, -3, -3, 2, 1);
        gap(TRIANGLE, TRIANGLE, 1, 1, 0, 1);
        gap(TRIANGLE, TRIANGLE, 1, 2, 0, 1);
        gap(TRIANGLE, TRIANGLE, 2, 2, 1, 2);
        gap(THREE, UNIT, 1, 1, 0, 1);
        gap(THREE, UNIT, 2, 2, 0, 1);
    }

    /** From 1 / 613, beside the longest edge that has a point so near, to the farthest corners. */
    private static void squaredGapLeastAndGreatest() {
        NestingPlanner planner = Checks.with("-9,-98,9-9,-8;", Boundary.UNIT);
        checks.due("beside the long edge: contact", planner.contact(0, 1, -8, -9), 0);
        checks.due("beside the long edge, above", planner.squaredGap(0, 1, -8, -9, 0), 1);
        checks.due("beside the long edge, below", planner.squaredGap(0, 1, -8, -9, 1), 17 * 17 + 18 * 18);
        gap(SQUARE, SQUARE, 60, 60, 2 * 58 * 58, 1);
        gap(SQUARE, SQUARE, -60, -60, 2 * 58 * 58, 1);
        gap(UNIT, UNIT, 60, -60, 2 * 59 * 59, 1);
        // from x + y = -17 to x + y = 17 + 120
        NestingPlanner corners = Checks.with("-9,-9-8,-9-9,-8;", "8,99,89,9;");
        checks.due("the farthest, above", corners.squaredGap(0, 1, 60, 60, 0), 154 * 154 / 2);
        checks.due("the farthest, below", corners.squaredGap(0, 1, 60, 60, 1), 1);
        checks.due("the farthest the other way, above", corners.squaredGap(1, 0, -60, -60, 0), 154 * 154 / 2);
    }

    /** The nearest points are an edge and a vertex, or two vertices: at the end of the edge it changes. */
    private static void squaredGapBesideAnEdgeAndAVertex() {
        gap(SQUARE, SQUARE, 5, 1, 9, 1);
        gap(SQUARE, SQUARE, 5, 2, 9, 1);
        gap(SQUARE, SQUARE, 5, 3, 10, 1);
        gap(SQUARE, SQUARE, 1, -5, 9, 1);
        gap(SQUARE, SQUARE, 2, -5, 9, 1);
        gap(SQUARE, SQUARE, 3, -5, 10, 1);
        // beside the slanted edge from (3, 0) to (0, 3), and past its end
        gap(TRIANGLE, UNIT, 2, 2, 1, 2);
        gap(TRIANGLE, UNIT, 4, 1, 2, 1);
        gap(TRIANGLE, UNIT, 4, 0, 1, 1);
        gap(TRIANGLE, UNIT, 5, 1, 5, 1);
        gap(TRIANGLE, UNIT, 1, 4, 2, 1);
        gap(TRIANGLE, UNIT, 1, 5, 5, 1);
    }

    /** "Fractions are in lowest terms with a positive denominator". */
    private static void squaredGapInLowestTerms() {
        // 2 * 2 / 2, 3 * 3 / 2, 4 * 4 / 2
        gap(TRIANGLE, UNIT, 3, 2, 2, 1);
        gap(TRIANGLE, UNIT, 3, 3, 9, 2);
        gap(TRIANGLE, UNIT, 4, 3, 8, 1);
        // an edge of length 5: 15 * 15 / 25, and 19 * 19 / 25
        NestingPlanner planner = Checks.with("0,04,00,3;", Boundary.UNIT);
        checks.due("15 * 15 / 25 above", planner.squaredGap(0, 1, 5, 3, 0), 9);
        checks.due("15 * 15 / 25 below", planner.squaredGap(0, 1, 5, 3, 1), 1);
        checks.due("19 * 19 / 25 above", planner.squaredGap(0, 1, 5, 4, 0), 19 * 19);
        checks.due("19 * 19 / 25 below", planner.squaredGap(0, 1, 5, 4, 1), 25);
    }

    // ---- promise 17

    private static void slides(int a, int b, int x, int y, int direction, int above, int below) {
        String what = "slide(" + a + "," + b + "," + x + "," + y + "," + direction + ")";
        boundary.taken(what + " above", Boundary::shapes, planner -> planner.slide(a, b, x, y, direction, 0), above);
        boundary.taken(what + " below", Boundary::shapes, planner -> planner.slide(a, b, x, y, direction, 1), below);
    }

    private static void slidesOn(int a, int b, int x, int y, int direction) {
        String what = "slide(" + a + "," + b + "," + x + "," + y + "," + direction + ")";
        for (int part = 0; part < 2; part++) {
            int asked = part;
            boundary.refused(what, Boundary::busy, planner -> planner.slide(a, b, x, y, direction, asked), Checks.NONE);
        }
    }

    /** "or if they overlap at (x, y)": also if it would move out at once; if they touch it is none. */
    private static void slideRefusesOverlap() {
        for (int direction = 0; direction < 8; direction++) {
            int asked = direction;
            boundary.refused("slide at (1,0) " + direction, Boundary::busy,
                planner -> planner.slide(SQUARE, SQUARE, 1, 0, asked, 0), Checks.ILLEGAL);
            boundary.refused("slide at (0,0) " + direction, Boundary::busy,
                planner -> planner.slide(TRIANGLE, TRIANGLE, 0, 0, asked, 1), Checks.ILLEGAL);
            boundary.refused("slide in the third piece " + direction, Boundary::busy,
                planner -> planner.slide(THREE, UNIT, 2, 2, asked, 0), Checks.ILLEGAL);
        }
        slidesOn(SQUARE, SQUARE, 2, 0, 0);
        slides(SQUARE, SQUARE, 2, 0, 4, 0, 1);
    }

    /** "(At s itself they touch.)": s is 0 if they touch and it moves into the interior; 0 is 0 / 1. */
    private static void slideByNothing() {
        for (int direction = 0; direction < 8; direction++) {
            slides(SQUARE, SQUARE, -2 * DX[direction], -2 * DY[direction], direction, 0, 1);
        }
        slides(TRIANGLE, UNIT, 1, 2, 5, 0, 1);
        slides(TRIANGLE, UNIT, 1, 2, 6, 0, 1);
        slides(TRIANGLE, UNIT, 1, 2, 4, 0, 1);
        // from one vertex of the no-fit polygon across a corner of it, for half a step
        NestingPlanner planner = Checks.with("0,01,00,1;");
        checks.due("across a corner, above", planner.slide(0, 0, 0, -1, 1, 0), 0);
        checks.due("across a corner, below", planner.slide(0, 0, 0, -1, 1, 1), 1);
    }

    /** "NONE if there is no greatest number, as they never overlap": it goes away, past it, or along it. */
    private static void slideWithoutEnd() {
        for (int direction = 0; direction < 8; direction++) {
            slidesOn(SQUARE, SQUARE, 2 * DX[direction], 2 * DY[direction], direction);
            slidesOn(SQUARE, SQUARE, 3 * DX[direction], 3 * DY[direction], direction);
        }
        slidesOn(SQUARE, SQUARE, 9, 3, 4);
        slidesOn(SQUARE, SQUARE, 9, -3, 4);
        slides(SQUARE, SQUARE, 9, 1, 4, 7, 1);
        slides(SQUARE, SQUARE, 9, -1, 4, 7, 1);
        // the least shapes, which leave each other by one step
        NestingPlanner planner = Checks.with("0,01,00,1;");
        for (int direction = 0; direction < 8; direction++) {
            int x = 2 * DX[direction];
            int y = 2 * DY[direction];
            checks.due("away " + direction, planner.slide(0, 0, x, y, direction, 0), Checks.NONE);
            checks.due("away " + direction, planner.slide(0, 0, x, y, direction, 1), Checks.NONE);
        }
    }

    /** Along an edge, and over a corner, they touch but never overlap. */
    private static void slideAlongAnEdge() {
        slidesOn(SQUARE, SQUARE, 9, 2, 4);
        slidesOn(SQUARE, SQUARE, 9, -2, 4);
        slidesOn(SQUARE, SQUARE, 2, 0, 2);
        slidesOn(SQUARE, SQUARE, 2, 0, 6);
        slidesOn(SQUARE, SQUARE, 4, 0, 3);
        slidesOn(SQUARE, SQUARE, 2, 2, 7);
        slidesOn(TRIANGLE, UNIT, 1, 2, 3);
        slidesOn(TRIANGLE, UNIT, 1, 2, 7);
        slides(SQUARE, SQUARE, 4, -1, 3, 2, 1);
    }

    /** "the greatest number s such that it does not overlap .. for any real s' from 0 to s". */
    private static void slideUntilAnotherPiece() {
        // along the lower bar of the L, until the upper bar
        slides(THREE, UNIT, 9, 1, 4, 8, 1);
        // the triangle is nearer than the upper bar
        slides(THREE, UNIT, 9, 2, 4, 6, 1);
        // from above: beside them all, then the triangle, the lower bar, the upper bar
        slidesOn(THREE, UNIT, 3, 9, 6);
        slides(THREE, UNIT, 2, 9, 6, 6, 1);
        slides(THREE, UNIT, 1, 9, 6, 8, 1);
        slides(THREE, UNIT, 0, 9, 6, 6, 1);
        // thin things that lie between two integer places
        NestingPlanner planner = Checks.with("1,01,10,1;", "0,01,00,1;");
        checks.due("between, above", planner.slide(0, 1, 0, 0, 1, 0), 0);
        checks.due("between, below", planner.slide(0, 1, 0, 0, 1, 1), 1);
        checks.due("behind it is room", planner.contact(0, 1, 1, 1), 1);
        checks.due("from the other side, above", planner.slide(0, 1, 2, 2, 5, 0), 1);
    }

    /** It touches a piece on its way, and goes on to another one. */
    private static void slideIsNotStoppedByTouching() {
        NestingPlanner planner = Checks.with("0,02,02,20,2;5,-27,-27,05,0;5,27,27,45,4;", Boundary.SQUARE);
        checks.due("between two pieces", planner.slide(0, 1, 12, 0, 4, 0), 10);
        checks.due("one higher", planner.slide(0, 1, 12, 1, 4, 0), 5);
        checks.due("one lower", planner.slide(0, 1, 12, -1, 4, 0), 5);
        checks.due("it begins between them", planner.slide(0, 1, 5, 0, 4, 0), 3);
        checks.due("it leaves from between them", planner.slide(0, 1, 5, 0, 0, 0), Checks.NONE);
    }

    /** "Fractions are in lowest terms with a positive denominator; 0 is 0 / 1." */
    private static void slideInLowestTerms() {
        // the slanted edge is at 1 / 2, 2 / 2, 3 / 2, 4 / 2
        slides(TRIANGLE, UNIT, 2, 2, 5, 1, 2);
        slides(TRIANGLE, UNIT, 3, 2, 5, 1, 1);
        slides(TRIANGLE, UNIT, 3, 3, 5, 3, 2);
        slides(TRIANGLE, UNIT, 4, 3, 5, 2, 1);
        // against an edge that rises by 3 on 4, from both sides
        NestingPlanner planner = Checks.with("0,04,00,3;", "0,01,01,10,1;");
        checks.due("to the left, above", planner.slide(0, 1, 9, 2, 4, 0), 23);
        checks.due("to the left, below", planner.slide(0, 1, 9, 2, 4, 1), 3);
        checks.due("downward, above", planner.slide(0, 1, 2, 9, 6, 0), 15);
        checks.due("downward, below", planner.slide(0, 1, 2, 9, 6, 1), 2);
        checks.due("downward, an integer, above", planner.slide(0, 1, 0, 9, 6, 0), 6);
        checks.due("downward, an integer, below", planner.slide(0, 1, 0, 9, 6, 1), 1);
    }

    /** From the farthest places. */
    private static void slideFarthest() {
        slides(SQUARE, SQUARE, 60, 0, 4, 58, 1);
        slides(SQUARE, SQUARE, -60, 0, 0, 58, 1);
        slides(SQUARE, SQUARE, 0, 60, 6, 58, 1);
        slides(SQUARE, SQUARE, 0, -60, 2, 58, 1);
        slides(SQUARE, SQUARE, 60, 60, 5, 58, 1);
        slides(SQUARE, SQUARE, -60, 60, 7, 58, 1);
        slides(SQUARE, SQUARE, -60, -60, 1, 58, 1);
        slides(SQUARE, SQUARE, 60, -60, 3, 58, 1);
        slides(SQUARE, SQUARE, 60, 57, 5, 58, 1);
        slidesOn(SQUARE, SQUARE, 60, 56, 5);
        slidesOn(SQUARE, SQUARE, 60, 60, 1);
    }

    /** "There are eight directions": each one meets the shape that lies in it, and no other one does. */
    private static void slideInEachDirection() {
        for (int direction = 0; direction < 8; direction++) {
            for (int other = 0; other < 8; other++) {
                int x = -5 * DX[direction];
                int y = -5 * DY[direction];
                if (other == direction) {
                    slides(SQUARE, SQUARE, x, y, other, 3, 1);
                } else {
                    slidesOn(SQUARE, SQUARE, x, y, other);
                }
            }
        }
    }
}
