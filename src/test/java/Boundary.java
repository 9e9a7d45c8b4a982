import java.util.function.Supplier;
import java.util.function.ToIntFunction;

/**
 * What the boundary tests share: planners to begin with, calls that are refused, and arguments at the
 * ends of their ranges.
 *
 * A refused call must leave no trace: a planner that got it is compared with a twin that did not,
 * also in what comes back by undo() and in what the text still holds.
 */
final class Boundary {
    static final String UNIT = "0,01,01,10,1;";
    static final String SQUARE = "0,02,02,20,2;";
    static final String TRIANGLE = "0,03,00,3;";
    /** An L of two pieces, and a triangle apart from it. */
    static final String THREE = "0,03,03,10,1;0,01,01,30,3;2,23,22,3;";
    static final int UNIT_SLOT = 3;
    static final int SQUARE_SLOT = 0;
    static final int TRIANGLE_SLOT = 1;
    static final int THREE_SLOT = 2;

    /** A method of the planner. */
    interface Call {
        int on(NestingPlanner planner, int[] arguments);
    }

    private final Checks checks;

    Boundary(Checks checks) {
        this.checks = checks;
    }

    // ---- planners to begin with

    /** A planner with a shape in each slot, and nothing else. */
    static NestingPlanner shapes() {
        NestingPlanner planner = new NestingPlanner();
        load(planner, SQUARE_SLOT, SQUARE);
        load(planner, TRIANGLE_SLOT, TRIANGLE);
        load(planner, THREE_SLOT, THREE);
        load(planner, UNIT_SLOT, UNIT);
        return planner;
    }

    /** A planner in which everything differs from a new one, and in which six states are saved. */
    static NestingPlanner busy() {
        NestingPlanner planner = shapes();
        planner.setContainer(15, 18);
        planner.setClearance(1);
        planner.place(SQUARE_SLOT, 0, 0);
        planner.place(TRIANGLE_SLOT, 5, 5);
        Checks.type(planner, "0,03,0");
        return planner;
    }

    /** The busy planner without one of its shapes. */
    static Supplier<NestingPlanner> lacking(int slot) {
        return () -> {
            NestingPlanner planner = busy();
            planner.clearShape(slot);
            return planner;
        };
    }

    /** The busy planner with another text. */
    static Supplier<NestingPlanner> typed(String text) {
        return () -> {
            NestingPlanner planner = busy();
            planner.clearText();
            Checks.type(planner, text);
            return planner;
        };
    }

    /** The shapes, and the items of a layout. */
    static Supplier<NestingPlanner> items(String layout) {
        return () -> {
            NestingPlanner planner = shapes();
            if (Checks.layout(planner, layout) < 0) {
                throw new IllegalStateException("no layout: " + layout);
            }
            return planner;
        };
    }

    /** The shapes, and eight unit squares along the bottom, one apart. */
    static NestingPlanner eight() {
        return items("3@0,0;3@2,0;3@4,0;3@6,0;3@8,0;3@10,0;3@12,0;3@14,0;").get();
    }

    private static void load(NestingPlanner planner, int slot, String shape) {
        if (Checks.load(planner, slot, shape) < 0) {
            throw new IllegalStateException("no shape: " + shape);
        }
    }

    // ---- refused calls

    /** The call answers the code (an error code, or NONE), and leaves no trace. */
    void refused(String what, Supplier<NestingPlanner> setup, ToIntFunction<NestingPlanner> call, int code) {
        NestingPlanner planner = setup.get();
        checks.due(what, call.applyAsInt(planner), code);
        checks.same(what + ": seen then", now(planner), now(setup.get()));
        NestingPlanner other = setup.get();
        call.applyAsInt(other);
        checks.same(what + ": undone then", back(other), back(setup.get()));
    }

    /** The call answers what is due. */
    void taken(String what, Supplier<NestingPlanner> setup, ToIntFunction<NestingPlanner> call, int due) {
        checks.due(what, call.applyAsInt(setup.get()), due);
    }

    // ---- arguments at the ends of their ranges

    /** A call with arguments that are fine, of which one at a time is then put to another value. */
    final class Asked {
        private final String name;
        private final Supplier<NestingPlanner> setup;
        private final Call call;
        private final int[] arguments;

        Asked(String name, Supplier<NestingPlanner> setup, Call call, int... arguments) {
            this.name = name;
            this.setup = setup;
            this.call = call;
            this.arguments = arguments;
        }

        private int[] with(int index, int value) {
            int[] result = arguments.clone();
            result[index] = value;
            return result;
        }

        private String what(int index, int value) {
            return name + " with argument " + index + " = " + value;
        }

        void takes(int index, int value, int due) {
            taken(what(index, value), setup, planner -> call.on(planner, with(index, value)), due);
        }

        void refuses(int index, int value, int code) {
            refused(what(index, value), setup, planner -> call.on(planner, with(index, value)), code);
        }

        /** The values next to the range, and those that are farthest from it, are out of range. */
        void refusesBeyond(int index, int low, int high) {
            refuses(index, low - 1, Checks.INVALID);
            refuses(index, high + 1, Checks.INVALID);
            refuses(index, Integer.MIN_VALUE, Checks.INVALID);
            refuses(index, Integer.MAX_VALUE, Checks.INVALID);
        }
    }

    Asked ask(String name, Supplier<NestingPlanner> setup, Call call, int... arguments) {
        return new Asked(name, setup, call, arguments);
    }

    // ---- all that can be seen of a planner

    /** What the questions answer. */
    static String seen(NestingPlanner planner) {
        StringBuilder text = new StringBuilder();
        for (int slot = 0; slot < 4; slot++) {
            text.append(planner.pieceCount(slot)).append(' ');
            text.append(planner.freePlaces(slot)).append(' ');
            text.append(planner.extent(slot, 1)).append(' ');
            text.append(planner.extent(slot, 3)).append(" / ");
        }
        int count = planner.itemCount();
        for (int item = 0; item < count; item++) {
            text.append(planner.itemPlace(item, 0)).append(',').append(planner.itemPlace(item, 1)).append(' ');
        }
        text.append("/ ").append(planner.packedDoubleArea());
        text.append(' ').append(planner.boundingBox(2)).append(' ').append(planner.boundingBox(3));
        return text.toString();
    }

    /** What is seen, and then what the text, the clearance and the container are; it changes all of it. */
    private static String now(NestingPlanner planner) {
        StringBuilder text = new StringBuilder(seen(planner));
        text.append(" text ").append(planner.loadLayout()).append(' ').append(planner.loadShape(3));
        text.append(' ').append(planner.extent(3, 1)).append(' ').append(planner.clearText());
        text.append(" clearance ").append(planner.setClearance(0));
        int count = planner.itemCount();
        for (int item = 0; item < count; item++) {
            planner.removeItem(0);
        }
        load(planner, 3, UNIT);
        planner.place(3, 0, 0);
        text.append(" container ").append(planner.slideItem(0, 0)).append(' ').append(planner.slideItem(0, 2));
        return text.toString();
    }

    /** What is seen after each undo(), until there is nothing to undo. */
    private static String back(NestingPlanner planner) {
        StringBuilder text = new StringBuilder();
        for (int step = 0; step < 8; step++) {
            text.append(planner.undo()).append(": ").append(seen(planner)).append('\n');
        }
        return text.toString();
    }
}
