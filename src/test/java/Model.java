import java.math.BigInteger;
import java.util.ArrayDeque;
import java.util.ArrayList;
import java.util.Arrays;
import java.util.Comparator;
import java.util.Deque;
import java.util.List;

/**
 * A second planner, written from the document by other means than the first: separating axes instead
 * of no-fit polygons, hulls of all sums of points instead of merged edges, an automaton instead of
 * functions that read a text, deep copies instead of shared shapes. ModelTest compares the two.
 */
final class Model {
    private static final int INVALID = -1000001;
    private static final int ILLEGAL = -1000002;
    private static final int CAPACITY = -1000003;
    private static final int NONE = -1000009;
    private static final int[][] DIRECTIONS =
        {{1, 0}, {1, 1}, {0, 1}, {-1, 1}, {-1, 0}, {-1, -1}, {0, -1}, {1, -1}};

    record Point(long x, long y) {
        Point plus(Point other) {
            return new Point(x + other.x, y + other.y);
        }

        Point minus(Point other) {
            return new Point(x - other.x, y - other.y);
        }

        long dot(Point other) {
            return x * other.x + y * other.y;
        }

        long cross(Point other) {
            return x * other.y - y * other.x;
        }

        Point turned(int turns) {
            Point point = this;
            for (int k = 0; k < turns; k++) {
                point = new Point(-point.y, point.x);
            }
            return point;
        }
    }

    /** A fraction in lowest terms with a positive denominator. */
    record Ratio(BigInteger above, BigInteger below) implements Comparable<Ratio> {
        static Ratio of(long above, long below) {
            BigInteger a = BigInteger.valueOf(above);
            BigInteger b = BigInteger.valueOf(below);
            BigInteger g = a.gcd(b).multiply(BigInteger.valueOf(b.signum()));
            return new Ratio(a.divide(g), b.divide(g));
        }

        public int compareTo(Ratio other) {
            return above.multiply(other.below).compareTo(other.above.multiply(below));
        }

        int part(int part) {
            return (part == 0 ? above : below).intValueExact();
        }
    }

    record Item(List<List<Point>> shape, Point at) {
        List<List<Point>> moved() {
            List<List<Point>> result = new ArrayList<>();
            for (List<Point> piece : shape) {
                result.add(piece.stream().map(p -> p.plus(at)).toList());
            }
            return result;
        }
    }

    private static final class State {
        List<List<List<Point>>> slots = new ArrayList<>(Arrays.asList(null, null, null, null));
        List<Item> items = new ArrayList<>();
        int width = 20;
        int height = 20;
        int clearance = 0;

        State copy() {
            State copy = new State();
            copy.slots = new ArrayList<>(slots);
            copy.items = new ArrayList<>(items);
            copy.width = width;
            copy.height = height;
            copy.clearance = clearance;
            return copy;
        }
    }

    private final StringBuilder text = new StringBuilder();
    private final Deque<State> saved = new ArrayDeque<>();
    private State now = new State();

    private void save(State state) {
        saved.addLast(state);
        if (saved.size() > 6) {
            saved.removeFirst();
        }
    }

    // ---- polygons

    static List<Point> hull(List<Point> points) {
        List<Point> sorted = points.stream().distinct()
            .sorted(Comparator.comparingLong(Point::y).thenComparingLong(Point::x)).toList();
        List<Point> result = new ArrayList<>();
        for (int pass = 0; pass < 2; pass++) {
            int start = result.size();
            for (int k = 0; k < sorted.size(); k++) {
                Point p = sorted.get(pass == 0 ? k : sorted.size() - 1 - k);
                while (result.size() >= start + 2) {
                    Point a = result.get(result.size() - 2);
                    Point b = result.get(result.size() - 1);
                    if (b.minus(a).cross(p.minus(b)) > 0) {
                        break;
                    }
                    result.remove(result.size() - 1);
                }
                result.add(p);
            }
            result.remove(result.size() - 1);
        }
        return result;
    }

    static List<Point> sum(List<Point> first, List<Point> second) {
        List<Point> points = new ArrayList<>();
        for (Point p : first) {
            for (Point q : second) {
                points.add(p.plus(q));
            }
        }
        return hull(points);
    }

    private static long doubleArea(List<Point> polygon) {
        long sum = 0;
        for (int k = 1; k + 1 < polygon.size(); k++) {
            Point base = polygon.get(0);
            sum += polygon.get(k).minus(base).cross(polygon.get(k + 1).minus(base));
        }
        return sum;
    }

    private static List<Point> normals(List<Point> first, List<Point> second) {
        List<Point> result = new ArrayList<>();
        for (List<Point> polygon : List.of(first, second)) {
            for (int k = 0; k < polygon.size(); k++) {
                Point edge = polygon.get((k + 1) % polygon.size()).minus(polygon.get(k));
                result.add(new Point(edge.y, -edge.x));
            }
        }
        return result;
    }

    private static long reach(List<Point> polygon, Point direction) {
        return polygon.stream().mapToLong(p -> p.dot(direction)).max().orElseThrow();
    }

    /** 0 for apart, 1 for touching, 2 for overlapping: the least that any axis shows. */
    private static int relation(List<Point> first, List<Point> second) {
        int result = 2;
        for (Point axis : normals(first, second)) {
            Point back = new Point(-axis.x, -axis.y);
            long before = reach(first, axis) + reach(second, back);
            long behind = reach(second, axis) + reach(first, back);
            result = Math.min(result, Long.signum(Math.min(before, behind)) + 1);
        }
        return result;
    }

    private static int shapeRelation(List<List<Point>> first, List<List<Point>> second) {
        int result = 0;
        for (List<Point> p : first) {
            for (List<Point> q : second) {
                result = Math.max(result, relation(p, q));
            }
        }
        return result;
    }

    private static Ratio distance(Point p, Point a, Point b) {
        Point edge = b.minus(a);
        long along = p.minus(a).dot(edge);
        if (along <= 0) {
            return Ratio.of(p.minus(a).dot(p.minus(a)), 1);
        }
        if (along >= edge.dot(edge)) {
            return Ratio.of(p.minus(b).dot(p.minus(b)), 1);
        }
        long side = edge.cross(p.minus(a));
        return Ratio.of(side * side, edge.dot(edge));
    }

    private static Ratio gap(List<List<Point>> first, List<List<Point>> second) {
        if (shapeRelation(first, second) != 0) {
            return Ratio.of(0, 1);
        }
        Ratio best = null;
        for (List<Point> p : first) {
            for (List<Point> q : second) {
                for (int i = 0; i < p.size(); i++) {
                    for (int j = 0; j < q.size(); j++) {
                        Ratio a = distance(p.get(i), q.get(j), q.get((j + 1) % q.size()));
                        Ratio b = distance(q.get(j), p.get(i), p.get((i + 1) % p.size()));
                        Ratio c = a.compareTo(b) < 0 ? a : b;
                        best = best == null || c.compareTo(best) < 0 ? c : best;
                    }
                }
            }
        }
        return best;
    }

    /** Where the second, moved on by multiples of a direction, begins to overlap the first, or null. */
    private static Ratio entry(List<Point> first, List<Point> second, Point direction) {
        Ratio low = Ratio.of(0, 1);
        Ratio high = Ratio.of(1000000, 1);
        for (Point axis : normals(first, second)) {
            // the projections overlap where low1 < high2 + s * speed and low2 + s * speed < high1
            long speed = direction.dot(axis);
            Point back = new Point(-axis.x, -axis.y);
            long room1 = reach(second, axis) + reach(first, back);
            long room2 = reach(first, axis) + reach(second, back);
            if (speed == 0) {
                if (room1 <= 0 || room2 <= 0) {
                    return null;
                }
                continue;
            }
            Ratio from = speed > 0 ? Ratio.of(-room1, speed) : Ratio.of(room2, speed);
            Ratio to = speed > 0 ? Ratio.of(room2, speed) : Ratio.of(-room1, speed);
            low = from.compareTo(low) > 0 ? from : low;
            high = to.compareTo(high) < 0 ? to : high;
        }
        return low.compareTo(high) < 0 ? low : null;
    }

    private static Ratio shapeEntry(List<List<Point>> first, List<List<Point>> second, int direction) {
        Point step = new Point(DIRECTIONS[direction][0], DIRECTIONS[direction][1]);
        Ratio best = null;
        for (List<Point> p : first) {
            for (List<Point> q : second) {
                Ratio s = entry(p, q, step);
                best = s != null && (best == null || s.compareTo(best) < 0) ? s : best;
            }
        }
        return best;
    }

    private static List<List<Point>> turned(List<List<Point>> shape, int turns) {
        List<List<Point>> result = new ArrayList<>();
        for (List<Point> piece : shape) {
            result.add(piece.stream().map(p -> p.turned(turns)).toList());
        }
        return result;
    }

    private static boolean tooClose(Item first, Item second, int r) {
        List<Point> square = List.of(new Point(-r, -r), new Point(r, -r), new Point(r, r), new Point(-r, r));
        for (List<Point> p : first.moved()) {
            List<Point> wide = r == 0 ? p : sum(p, square);
            for (List<Point> q : second.moved()) {
                if (relation(wide, q) == 2) {
                    return true;
                }
            }
        }
        return false;
    }

    private boolean fits(List<List<Point>> shape, Point at, List<Item> others) {
        Item item = new Item(shape, at);
        for (List<Point> piece : item.moved()) {
            for (Point p : piece) {
                if (p.x < 0 || p.y < 0 || p.x > now.width || p.y > now.height) {
                    return false;
                }
            }
        }
        return others.stream().noneMatch(other -> tooClose(other, item, now.clearance));
    }

    private Point bottomLeft(List<List<Point>> shape) {
        for (int y = -9; y <= 50; y++) {
            for (int x = -9; x <= 50; x++) {
                if (fits(shape, new Point(x, y), now.items)) {
                    return new Point(x, y);
                }
            }
        }
        return null;
    }

    // ---- texts

    private static boolean isPiece(List<Point> vertices) {
        if (vertices.size() < 3) {
            return false;
        }
        // once around and strictly to the left: the hull has the same vertices in the same order
        List<Point> hull = hull(vertices);
        int shift = vertices.indexOf(hull.get(0));
        for (int k = 0; k < vertices.size(); k++) {
            if (hull.size() != vertices.size() || !hull.get(k).equals(vertices.get((shift + k) % hull.size()))) {
                return false;
            }
        }
        return true;
    }

    /** The pieces, or the error position in the list's place: null and the position in errorAt. */
    private int errorAt;

    private List<List<Point>> parseShape() {
        List<List<Point>> pieces = new ArrayList<>();
        List<Point> vertices = new ArrayList<>();
        List<Long> numbers = new ArrayList<>();
        // states: v before a vertex or ";", m behind a minus, c before a comma, n before a second number
        char state = 'v';
        boolean negative = false;
        for (int k = 0; k < text.length(); k++) {
            char c = text.charAt(k);
            errorAt = k;
            if (c == ' ') {
                continue;
            }
            boolean digit = c >= '0' && c <= '9';
            if (state == 'v' && c == ';') {
                if (!isPiece(vertices)) {
                    return null;
                }
                pieces.add(vertices);
                vertices = new ArrayList<>();
            } else if (state == 'c' && c == ',') {
                state = 'n';
            } else if ((state == 'v' || state == 'n') && c == '-' && vertices.size() < 6 && pieces.size() < 3) {
                negative = true;
                state = 'm';
            } else if (state != 'c' && digit && vertices.size() < 6 && pieces.size() < 3) {
                numbers.add((long) (negative ? '0' - c : c - '0'));
                negative = false;
                state = 'c';
                if (numbers.size() == 2) {
                    vertices.add(new Point(numbers.get(0), numbers.get(1)));
                    numbers.clear();
                    state = 'v';
                }
            } else {
                return null;
            }
        }
        errorAt = text.length();
        return state == 'v' && vertices.isEmpty() && !pieces.isEmpty() ? pieces : null;
    }

    /** Rows of slot, x, y, or null with the position in errorAt. */
    private List<int[]> parseLayout() {
        List<int[]> items = new ArrayList<>();
        int[] item = new int[3];
        // s before a slot, @ before it, p before a place, m behind its minus, d behind its first digit
        // (which is not 0), e behind it
        char state = 's';
        int part = 1;
        int sign = 1;
        for (int k = 0; k < text.length(); k++) {
            char c = text.charAt(k);
            errorAt = k;
            boolean digit = c >= '0' && c <= '9';
            if (c == ' ' && state != 'm') {
                state = state == 'd' ? 'e' : state;
            } else if (state == 's' && c >= '0' && c <= '3') {
                item = new int[] {c - '0', 0, 0};
                state = '@';
            } else if (state == '@' && c == '@') {
                state = 'p';
                part = 1;
                sign = 1;
            } else if (state == 'p' && c == '-') {
                sign = -1;
                state = 'm';
            } else if ((state == 'p' || state == 'm') && digit) {
                item[part] = sign * (c - '0');
                state = c == '0' ? 'e' : 'd';
            } else if (state == 'd' && digit) {
                item[part] = 10 * item[part] + sign * (c - '0');
                state = 'e';
            } else if ((state == 'd' || state == 'e') && c == (part == 1 ? ',' : ';')) {
                state = part == 1 ? 'p' : 's';
                sign = 1;
                if (part == 2) {
                    items.add(item);
                }
                part = 2;
            } else {
                return null;
            }
        }
        errorAt = text.length();
        return state == 's' ? items : null;
    }

    // ---- the face

    private static boolean in(int value, int low, int high) {
        return value >= low && value <= high;
    }

    private boolean hasPiece(int slot, int piece) {
        return in(slot, 0, 3) && now.slots.get(slot) != null && in(piece, 0, now.slots.get(slot).size() - 1);
    }

    private boolean hasItem(int item) {
        return in(item, 0, now.items.size() - 1);
    }

    private boolean isEmpty(int slot) {
        return now.slots.get(slot) == null;
    }

    int appendCharacter(int character) {
        if (!in(character, 0, 255)) {
            return INVALID;
        }
        if (text.length() == 150) {
            return CAPACITY;
        }
        return text.append((char) character).length();
    }

    int clearText() {
        int length = text.length();
        text.setLength(0);
        return length;
    }

    int loadShape(int slot) {
        if (!in(slot, 0, 3)) {
            return INVALID;
        }
        List<List<Point>> pieces = parseShape();
        if (pieces == null) {
            return -10 - errorAt;
        }
        save(now.copy());
        now.slots.set(slot, pieces);
        text.setLength(0);
        return pieces.size();
    }

    int clearShape(int slot) {
        if (!in(slot, 0, 3)) {
            return INVALID;
        }
        if (isEmpty(slot)) {
            return ILLEGAL;
        }
        save(now.copy());
        return now.slots.set(slot, null).size();
    }

    int copyShape(int from, int to, int turns) {
        if (!in(from, 0, 3) || !in(to, 0, 3) || !in(turns, 0, 3)) {
            return INVALID;
        }
        if (isEmpty(from)) {
            return ILLEGAL;
        }
        save(now.copy());
        now.slots.set(to, turned(now.slots.get(from), turns));
        return now.slots.get(to).size();
    }

    int pieceCount(int slot) {
        return !in(slot, 0, 3) ? INVALID : isEmpty(slot) ? 0 : now.slots.get(slot).size();
    }

    int doubleArea(int slot, int piece) {
        return hasPiece(slot, piece) ? (int) doubleArea(now.slots.get(slot).get(piece)) : INVALID;
    }

    private List<Point> hullOf(int slot) {
        return hull(now.slots.get(slot).stream().flatMap(List::stream).toList());
    }

    int hullSize(int slot) {
        return !in(slot, 0, 3) ? INVALID : isEmpty(slot) ? ILLEGAL : hullOf(slot).size();
    }

    int hullVertex(int slot, int vertex, int coordinate) {
        if (!in(slot, 0, 3) || !in(coordinate, 0, 1) || vertex < 0) {
            return INVALID;
        }
        if (isEmpty(slot)) {
            return ILLEGAL;
        }
        List<Point> hull = hullOf(slot);
        if (vertex >= hull.size()) {
            return NONE;
        }
        return (int) (coordinate == 0 ? hull.get(vertex).x : hull.get(vertex).y);
    }

    int extent(int slot, int direction) {
        if (!in(slot, 0, 3) || !in(direction, 0, 7)) {
            return INVALID;
        }
        if (isEmpty(slot)) {
            return ILLEGAL;
        }
        return (int) reach(hullOf(slot), new Point(DIRECTIONS[direction][0], DIRECTIONS[direction][1]));
    }

    private List<Point> sumOf(int isNoFit, int a, int i, int b, int j) {
        List<Point> second = now.slots.get(b).get(j);
        return sum(now.slots.get(a).get(i), isNoFit == 0 ? second : turned(List.of(second), 2).get(0));
    }

    int sumSize(int isNoFit, int a, int i, int b, int j) {
        boolean valid = in(isNoFit, 0, 1) && hasPiece(a, i) && hasPiece(b, j);
        return valid ? sumOf(isNoFit, a, i, b, j).size() : INVALID;
    }

    int sumVertex(int isNoFit, int a, int i, int b, int j, int vertex) {
        if (!in(isNoFit, 0, 1) || !hasPiece(a, i) || !hasPiece(b, j) || vertex < 0) {
            return INVALID;
        }
        List<Point> sum = sumOf(isNoFit, a, i, b, j);
        return vertex < sum.size() ? (int) (1000 * sum.get(vertex).x + sum.get(vertex).y) : NONE;
    }

    int sumDoubleArea(int a, int i, int b, int j) {
        return hasPiece(a, i) && hasPiece(b, j) ? (int) doubleArea(sumOf(0, a, i, b, j)) : INVALID;
    }

    int contact(int a, int b, int x, int y) {
        if (!in(a, 0, 3) || !in(b, 0, 3) || !in(x, -60, 60) || !in(y, -60, 60)) {
            return INVALID;
        }
        if (isEmpty(a) || isEmpty(b)) {
            return ILLEGAL;
        }
        return shapeRelation(now.slots.get(a), new Item(now.slots.get(b), new Point(x, y)).moved());
    }

    int squaredGap(int a, int b, int x, int y, int part) {
        if (!in(part, 0, 1) || contact(a, b, x, y) == INVALID) {
            return INVALID;
        }
        if (isEmpty(a) || isEmpty(b)) {
            return ILLEGAL;
        }
        return gap(now.slots.get(a), new Item(now.slots.get(b), new Point(x, y)).moved()).part(part);
    }

    int slide(int a, int b, int x, int y, int direction, int part) {
        int contact = contact(a, b, x, y);
        if (!in(part, 0, 1) || !in(direction, 0, 7) || contact == INVALID) {
            return INVALID;
        }
        if (contact == ILLEGAL || contact == 2) {
            return ILLEGAL;
        }
        Item moved = new Item(now.slots.get(b), new Point(x, y));
        Ratio s = shapeEntry(now.slots.get(a), moved.moved(), direction);
        return s == null ? NONE : s.part(part);
    }

    int setClearance(int clearance) {
        if (!in(clearance, 0, 5)) {
            return INVALID;
        }
        for (Item first : now.items) {
            for (Item second : now.items) {
                if (first != second && tooClose(first, second, clearance)) {
                    return ILLEGAL;
                }
            }
        }
        save(now.copy());
        int previous = now.clearance;
        now.clearance = clearance;
        return previous;
    }

    int setContainer(int width, int height) {
        if (!in(width, 1, 40) || !in(height, 1, 40)) {
            return INVALID;
        }
        save(now.copy());
        int removed = now.items.size();
        now.items.clear();
        now.width = width;
        now.height = height;
        return removed;
    }

    private int add(List<List<Point>> shape, Point at) {
        save(now.copy());
        now.items.add(new Item(shape, at));
        return now.items.size() - 1;
    }

    int place(int slot, int x, int y) {
        if (!in(slot, 0, 3) || !in(x, -60, 60) || !in(y, -60, 60)) {
            return INVALID;
        }
        if (isEmpty(slot) || !fits(now.slots.get(slot), new Point(x, y), now.items)) {
            return ILLEGAL;
        }
        return now.items.size() == 8 ? CAPACITY : add(now.slots.get(slot), new Point(x, y));
    }

    int placeBottomLeft(int slot) {
        if (!in(slot, 0, 3)) {
            return INVALID;
        }
        if (isEmpty(slot)) {
            return ILLEGAL;
        }
        if (now.items.size() == 8) {
            return CAPACITY;
        }
        Point at = bottomLeft(now.slots.get(slot));
        return at == null ? NONE : add(now.slots.get(slot), at);
    }

    private static long greatest(Item item, boolean vertical) {
        return item.moved().stream().flatMap(List::stream).mapToLong(p -> vertical ? p.y : p.x).max().orElseThrow();
    }

    int placeTurned(int slot) {
        if (!in(slot, 0, 3)) {
            return INVALID;
        }
        if (isEmpty(slot)) {
            return ILLEGAL;
        }
        if (now.items.size() == 8) {
            return CAPACITY;
        }
        List<Item> ways = new ArrayList<>();
        for (int turns = 0; turns < 4; turns++) {
            List<List<Point>> shape = turned(now.slots.get(slot), turns);
            Point at = bottomLeft(shape);
            if (at != null) {
                ways.add(new Item(shape, at));
            }
        }
        // min() takes the first of equal ones, that is, the one with the smallest number of turns
        Item best = ways.stream().min(Comparator.comparingLong((Item w) -> greatest(w, true))
            .thenComparingLong(w -> greatest(w, false))).orElse(null);
        return best == null ? NONE : add(best.shape, best.at);
    }

    int loadLayout() {
        List<int[]> rows = parseLayout();
        if (rows == null) {
            return -10 - errorAt;
        }
        List<Item> items = new ArrayList<>();
        for (int[] row : rows) {
            Point at = new Point(row[1], row[2]);
            if (isEmpty(row[0]) || items.size() == 8 || !fits(now.slots.get(row[0]), at, items)) {
                return ILLEGAL;
            }
            items.add(new Item(now.slots.get(row[0]), at));
        }
        save(now.copy());
        now.items = items;
        text.setLength(0);
        return items.size();
    }

    private int slideSteps(int item, int direction) {
        Point step = new Point(DIRECTIONS[direction][0], DIRECTIONS[direction][1]);
        List<Item> others = new ArrayList<>(now.items);
        others.remove(item);
        int steps = 0;
        while (true) {
            Item old = now.items.get(item);
            if (!fits(old.shape, old.at.plus(step), others)) {
                return steps;
            }
            now.items.set(item, new Item(old.shape, old.at.plus(step)));
            steps++;
        }
    }

    int slideItem(int item, int direction) {
        if (!hasItem(item) || !in(direction, 0, 7)) {
            return INVALID;
        }
        State old = now.copy();
        int steps = slideSteps(item, direction);
        if (steps == 0) {
            return NONE;
        }
        save(old);
        return steps;
    }

    int compact() {
        State old = now.copy();
        int all = 0;
        int before = -1;
        while (all != before) {
            before = all;
            for (int item = 0; item < now.items.size(); item++) {
                all += slideSteps(item, 6);
                all += slideSteps(item, 4);
            }
        }
        if (all == 0) {
            return NONE;
        }
        save(old);
        return all;
    }

    int removeItem(int item) {
        if (!hasItem(item)) {
            return INVALID;
        }
        save(now.copy());
        now.items.remove(item);
        return now.items.size();
    }

    int itemCount() {
        return now.items.size();
    }

    int itemPlace(int item, int coordinate) {
        if (!hasItem(item) || !in(coordinate, 0, 1)) {
            return INVALID;
        }
        Point at = now.items.get(item).at;
        return (int) (coordinate == 0 ? at.x : at.y);
    }

    int freePlaces(int slot) {
        if (!in(slot, 0, 3)) {
            return INVALID;
        }
        if (isEmpty(slot)) {
            return ILLEGAL;
        }
        int count = 0;
        for (int y = -9; y <= 50; y++) {
            for (int x = -9; x <= 50; x++) {
                count += fits(now.slots.get(slot), new Point(x, y), now.items) ? 1 : 0;
            }
        }
        return count;
    }

    int itemGap(int first, int second, int part) {
        if (!hasItem(first) || !hasItem(second) || first == second || !in(part, 0, 1)) {
            return INVALID;
        }
        return gap(now.items.get(first).moved(), now.items.get(second).moved()).part(part);
    }

    int closestPair() {
        int result = NONE;
        Ratio best = null;
        for (int i = 0; i < now.items.size(); i++) {
            for (int j = i + 1; j < now.items.size(); j++) {
                Ratio gap = gap(now.items.get(i).moved(), now.items.get(j).moved());
                if (best == null || gap.compareTo(best) < 0) {
                    best = gap;
                    result = 10 * i + j;
                }
            }
        }
        return result;
    }

    int itemAt(int x, int y) {
        if (!in(x, -60, 60) || !in(y, -60, 60)) {
            return INVALID;
        }
        Point point = new Point(x, y);
        for (int item = 0; item < now.items.size(); item++) {
            for (List<Point> piece : now.items.get(item).moved()) {
                // it is in the piece if the hull with it has the same area
                List<Point> all = new ArrayList<>(piece);
                all.add(point);
                if (doubleArea(hull(all)) == doubleArea(piece)) {
                    return item;
                }
            }
        }
        return NONE;
    }

    private boolean escapes(Item item, List<Item> others, int direction) {
        return others.stream().allMatch(other -> other == item
            || shapeEntry(other.moved(), item.moved(), direction) == null);
    }

    int escapes(int item, int direction) {
        if (!hasItem(item) || !in(direction, 0, 7)) {
            return INVALID;
        }
        return escapes(now.items.get(item), now.items, direction) ? 1 : 0;
    }

    int removalOrder(int direction, int k) {
        if (!in(direction, 0, 7) || k < 0) {
            return INVALID;
        }
        List<Item> left = new ArrayList<>(now.items);
        List<Integer> order = new ArrayList<>();
        boolean found = true;
        while (found) {
            found = false;
            for (int item = 0; item < now.items.size() && !found; item++) {
                Item candidate = now.items.get(item);
                if (!order.contains(item) && escapes(candidate, left, direction)) {
                    order.add(item);
                    left.removeIf(other -> other == candidate);
                    found = true;
                }
            }
        }
        return k < order.size() ? order.get(k) : NONE;
    }

    int packedDoubleArea() {
        long sum = 0;
        for (Item item : now.items) {
            for (List<Point> piece : item.shape) {
                sum += doubleArea(piece);
            }
        }
        return (int) sum;
    }

    int boundingBox(int side) {
        if (!in(side, 0, 3)) {
            return INVALID;
        }
        List<Point> points = now.items.stream().flatMap(i -> i.moved().stream()).flatMap(List::stream).toList();
        if (points.isEmpty()) {
            return NONE;
        }
        long[] values = points.stream().mapToLong(p -> side % 2 == 0 ? p.x : p.y).sorted().toArray();
        return (int) values[side < 2 ? 0 : values.length - 1];
    }

    int touchingPairs() {
        int pairs = 0;
        for (int i = 0; i < now.items.size(); i++) {
            for (int j = i + 1; j < now.items.size(); j++) {
                pairs += shapeRelation(now.items.get(i).moved(), now.items.get(j).moved()) == 1 ? 1 : 0;
            }
        }
        return pairs;
    }

    int undo() {
        if (saved.isEmpty()) {
            return ILLEGAL;
        }
        now = saved.removeLast();
        return saved.size();
    }
}
