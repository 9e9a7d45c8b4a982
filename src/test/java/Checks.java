/** Compares answers with those that are due, and counts the wrong ones. */
final class Checks {
    static final int INVALID = NestingPlanner.INVALID_ARGUMENT;
    static final int ILLEGAL = NestingPlanner.ILLEGAL_STATE;
    static final int CAPACITY = NestingPlanner.CAPACITY_EXCEEDED;
    static final int NONE = NestingPlanner.NONE;

    private int checks = 0;
    private int wrong = 0;

    void due(String what, long got, long want) {
        checks++;
        if (got != want) {
            wrong++;
            System.out.println(what + " answered " + got + ", due is " + want);
        }
    }

    void same(String what, Object got, Object want) {
        checks++;
        if (!got.equals(want)) {
            wrong++;
            System.out.println(what + " answered " + got + ", due is " + want);
        }
    }

    /** Ends the test: with exit code 1 if an answer was wrong. */
    void finish() {
        System.out.println(checks + " checks, " + wrong + " wrong");
        if (wrong != 0 || checks == 0) {
            System.exit(1);
        }
    }

    boolean hasWrong() {
        return wrong != 0;
    }

    /** Appends a text to the text that the planner has. */
    static void type(NestingPlanner planner, String text) {
        for (int k = 0; k < text.length(); k++) {
            planner.appendCharacter(text.charAt(k));
        }
    }

    /** Reads a text, in place of what was there, as a shape. */
    static int load(NestingPlanner planner, int slot, String text) {
        planner.clearText();
        type(planner, text);
        return planner.loadShape(slot);
    }

    /** Reads a text, in place of what was there, as a layout. */
    static int layout(NestingPlanner planner, String text) {
        planner.clearText();
        type(planner, text);
        return planner.loadLayout();
    }

    /** A planner with a shape in slot 0. */
    static NestingPlanner with(String shape) {
        NestingPlanner planner = new NestingPlanner();
        if (load(planner, 0, shape) < 0) {
            throw new IllegalStateException("no shape: " + shape);
        }
        return planner;
    }

    /** A planner with a shape in slot 0 and another one in slot 1. */
    static NestingPlanner with(String first, String second) {
        NestingPlanner planner = with(first);
        if (load(planner, 1, second) < 0) {
            throw new IllegalStateException("no shape: " + second);
        }
        return planner;
    }
}
