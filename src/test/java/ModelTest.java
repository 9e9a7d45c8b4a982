import java.util.ArrayList;
import java.util.Collections;
import java.util.List;
import java.util.Random;

/**
 * Random runs of calls (with fixed seeds, so always the same), with the answers of a second planner
 * (Model) as those that are due.
 */
final class ModelTest {
    private static final int RUNS = 400;
    private static final int CALLS = 512;
    private static final Checks checks = new Checks();

    private final Random random;
    private final int run;
    private final NestingPlanner planner = new NestingPlanner();
    private final Model model = new Model();
    /** How far from 0 the coordinates of shapes may lie in this run, and how many pieces they have. */
    private final int reach;
    private final int pieces;
    private int calls = 0;

    private ModelTest(int run) {
        this.run = run;
        random = new Random(run);
        reach = new int[] {2, 3, 4, 6, 9}[random.nextInt(5)];
        pieces = 1 + random.nextInt(3);
    }

    public static void main(String[] args) {
        for (int run = 0; run < RUNS && !checks.hasWrong(); run++) {
            new ModelTest(run).play();
        }
        checks.finish();
    }

    private void play() {
        if (random.nextInt(3) > 0) {
            int width = 5 + random.nextInt(36);
            int height = 5 + random.nextInt(36);
            due("setContainer", planner.setContainer(width, height), model.setContainer(width, height));
        }
        for (int slot = 0; slot < 4; slot++) {
            if (random.nextInt(5) > 0) {
                load(shapeText(), slot);
            }
        }
        while (calls < CALLS && !checks.hasWrong()) {
            switch (random.nextInt(6)) {
                case 0: changeShapes(); break;
                case 1: askOfShapes(); break;
                case 2: askOfTwoShapes(); break;
                case 3: askOfItems(); break;
                case 4: changeItems(); break;
                default: addItems(); break;
            }
        }
    }

    private void due(String call, int got, int want) {
        calls++;
        checks.due("run " + run + ", call " + calls + ": " + call, got, want);
    }

    // ---- arguments, now and then wrong ones

    private int pick(int low, int high) {
        int chance = random.nextInt(60);
        if (chance == 0) {
            return low - 1;
        }
        if (chance == 1) {
            return high + 1;
        }
        if (chance == 2) {
            return random.nextInt();
        }
        return low + random.nextInt(high - low + 1);
    }

    private int slot() {
        return pick(0, 3);
    }

    private int direction() {
        return pick(0, 7);
    }

    private int part() {
        return pick(0, 1);
    }

    private int item() {
        return pick(0, Math.max(0, model.itemCount() - 1));
    }

    private int offset() {
        return random.nextInt(8) == 0 ? pick(-60, 60) : random.nextInt(4 * reach + 3) - 2 * reach - 1;
    }

    // ---- texts

    private String number(long value) {
        String spaces = random.nextInt(12) == 0 ? " " : "";
        return value < 0 || value == 0 && random.nextInt(20) == 0 ? spaces + "-" + spaces + Math.abs(value)
            : "" + value;
    }

    private String pieceText() {
        while (true) {
            List<Model.Point> points = new ArrayList<>();
            int count = 3 + random.nextInt(6);
            for (int k = 0; k < count; k++) {
                points.add(new Model.Point(random.nextInt(2 * reach + 1) - reach, random.nextInt(2 * reach + 1) - reach));
            }
            List<Model.Point> hull = new ArrayList<>(Model.hull(points));
            while (hull.size() > 6) {
                hull.remove(random.nextInt(hull.size()));
            }
            if (hull.size() >= 3) {
                Collections.rotate(hull, random.nextInt(6));
                StringBuilder text = new StringBuilder();
                for (Model.Point p : hull) {
                    text.append(number(p.x())).append(',').append(number(p.y()));
                    text.append(random.nextInt(6) == 0 ? " " : "");
                }
                return text.append(';').toString();
            }
        }
    }

    private String shapeText() {
        StringBuilder text = new StringBuilder();
        int count = 1 + random.nextInt(pieces);
        for (int k = 0; k < count; k++) {
            text.append(pieceText());
        }
        return text.toString();
    }

    private String layoutText() {
        StringBuilder text = new StringBuilder();
        int count = random.nextInt(4) == 0 ? random.nextInt(12) : random.nextInt(4);
        for (int k = 0; k < count; k++) {
            text.append(random.nextInt(4)).append(random.nextInt(9) == 0 ? " @ " : "@");
            text.append(random.nextInt(44) - 4).append(random.nextInt(9) == 0 ? " , " : ",");
            text.append(random.nextInt(44) - 4).append(';');
        }
        return text.toString();
    }

    /** Changes a text in one or two places, so that it is most likely wrong. */
    private String spoilt(String text) {
        String signs = "0123456789,,;;@-- ax";
        StringBuilder result = new StringBuilder(text);
        int changes = 1 + random.nextInt(2);
        for (int k = 0; k < changes; k++) {
            int at = random.nextInt(result.length() + 1);
            char sign = signs.charAt(random.nextInt(signs.length()));
            int way = random.nextInt(4);
            if (way == 0 || at == result.length()) {
                result.insert(at, sign);
            } else if (way == 1) {
                result.deleteCharAt(at);
            } else if (way == 2) {
                result.setCharAt(at, sign);
            } else {
                result.setLength(at);
            }
        }
        return result.toString();
    }

    private void type(String text) {
        for (int k = 0; k < text.length(); k++) {
            due("appendCharacter", planner.appendCharacter(text.charAt(k)), model.appendCharacter(text.charAt(k)));
        }
    }

    private void load(String text, int slot) {
        due("clearText", planner.clearText(), model.clearText());
        type(text);
        due("loadShape(" + slot + ") of " + text, planner.loadShape(slot), model.loadShape(slot));
    }

    // ---- calls

    private void changeShapes() {
        int a = slot();
        int b = slot();
        int turns = pick(0, 3);
        switch (random.nextInt(12)) {
            case 0: load(shapeText(), a); break;
            case 1: case 2: load(spoilt(shapeText()), a); break;
            case 3: due("clearShape", planner.clearShape(a), model.clearShape(a)); break;
            case 4: case 5: due("copyShape", planner.copyShape(a, b, turns), model.copyShape(a, b, turns)); break;
            case 6: type(String.valueOf((char) random.nextInt(300))); break;
            default: due("undo", planner.undo(), model.undo()); break;
        }
    }

    private void askOfShapes() {
        int a = slot();
        int b = slot();
        int i = pick(0, pieces - 1);
        int j = pick(0, pieces - 1);
        int kind = part();
        int direction = direction();
        int vertex = pick(0, 13);
        due("pieceCount", planner.pieceCount(a), model.pieceCount(a));
        due("doubleArea", planner.doubleArea(a, i), model.doubleArea(a, i));
        due("hullSize", planner.hullSize(a), model.hullSize(a));
        due("hullVertex", planner.hullVertex(a, vertex, kind), model.hullVertex(a, vertex, kind));
        due("extent", planner.extent(a, direction), model.extent(a, direction));
        due("sumSize", planner.sumSize(kind, a, i, b, j), model.sumSize(kind, a, i, b, j));
        due("sumVertex", planner.sumVertex(kind, a, i, b, j, vertex), model.sumVertex(kind, a, i, b, j, vertex));
        due("sumDoubleArea", planner.sumDoubleArea(a, i, b, j), model.sumDoubleArea(a, i, b, j));
    }

    private void askOfTwoShapes() {
        int a = slot();
        int b = slot();
        int x = offset();
        int y = offset();
        int d = direction();
        int part = part();
        String at = "(" + a + "," + b + "," + x + "," + y + ") ";
        due("contact" + at, planner.contact(a, b, x, y), model.contact(a, b, x, y));
        due("squaredGap" + at, planner.squaredGap(a, b, x, y, part), model.squaredGap(a, b, x, y, part));
        due("slide" + at + d, planner.slide(a, b, x, y, d, part), model.slide(a, b, x, y, d, part));
    }

    private void askOfItems() {
        int first = item();
        int second = item();
        int part = part();
        int d = direction();
        int x = random.nextInt(9) == 0 ? offset() : random.nextInt(30);
        int y = random.nextInt(9) == 0 ? offset() : random.nextInt(30);
        int k = pick(0, 8);
        due("itemCount", planner.itemCount(), model.itemCount());
        due("itemPlace", planner.itemPlace(first, part), model.itemPlace(first, part));
        due("itemGap", planner.itemGap(first, second, part), model.itemGap(first, second, part));
        due("closestPair", planner.closestPair(), model.closestPair());
        due("itemAt", planner.itemAt(x, y), model.itemAt(x, y));
        due("escapes", planner.escapes(first, d), model.escapes(first, d));
        due("removalOrder", planner.removalOrder(d, k), model.removalOrder(d, k));
        due("packedDoubleArea", planner.packedDoubleArea(), model.packedDoubleArea());
        due("boundingBox", planner.boundingBox(k / 2), model.boundingBox(k / 2));
        due("touchingPairs", planner.touchingPairs(), model.touchingPairs());
        if (random.nextInt(12) == 0) {
            int slot = slot();
            due("freePlaces", planner.freePlaces(slot), model.freePlaces(slot));
        }
    }

    private void changeItems() {
        int item = item();
        int d = direction();
        int clearance = random.nextInt(2) == 0 ? 0 : pick(0, 5);
        switch (random.nextInt(9)) {
            case 0: case 1: case 2: due("slideItem", planner.slideItem(item, d), model.slideItem(item, d)); break;
            case 3: due("compact", planner.compact(), model.compact()); break;
            case 4: due("removeItem", planner.removeItem(item), model.removeItem(item)); break;
            case 5: case 6: due("setClearance", planner.setClearance(clearance), model.setClearance(clearance)); break;
            case 7: due("undo", planner.undo(), model.undo()); break;
            default: changeContainer(); break;
        }
    }

    private void changeContainer() {
        if (random.nextInt(4) == 0) {
            int width = pick(1, 40);
            int height = pick(1, 40);
            due("setContainer", planner.setContainer(width, height), model.setContainer(width, height));
        }
    }

    private void addItems() {
        int slot = slot();
        int x = random.nextInt(20) == 0 ? pick(-60, 60) : random.nextInt(30);
        int y = random.nextInt(20) == 0 ? pick(-60, 60) : random.nextInt(30);
        switch (random.nextInt(10)) {
            case 0: case 1: case 2: case 3:
                due("place", planner.place(slot, x, y), model.place(slot, x, y));
                break;
            case 4: case 5: case 6:
                due("placeBottomLeft", planner.placeBottomLeft(slot), model.placeBottomLeft(slot));
                break;
            case 7: case 8:
                due("placeTurned", planner.placeTurned(slot), model.placeTurned(slot));
                break;
            default:
                due("clearText", planner.clearText(), model.clearText());
                String text = random.nextInt(3) == 0 ? spoilt(layoutText()) : layoutText();
                type(text);
                due("loadLayout of " + text, planner.loadLayout(), model.loadLayout());
                break;
        }
    }
}
