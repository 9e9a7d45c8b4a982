/**
 * Nests shapes of convex pieces in a rectangular container, with exact integer geometry.
 *
 * Two ideas carry all of it. Whether and how a moved piece meets a fixed one is asked of one point
 * and one convex polygon, their no-fit polygon. And a shape that stands in a slot is never changed,
 * so that slots, items and saved states may share it.
 */
public final class NestingPlanner {
    public static final int INVALID_ARGUMENT = -1000001;
    public static final int ILLEGAL_STATE = -1000002;
    public static final int CAPACITY_EXCEEDED = -1000003;
    public static final int NONE = -1000009;

    private static final int SLOTS = 4;
    private static final int MAX_ITEMS = 8;
    private static final int MAX_PIECES = 3;
    private static final int MAX_VERTICES = 6;
    private static final int MAX_TEXT = 150;
    private static final int MAX_CODE = 255;
    private static final int MAX_SAVED = 6;
    private static final int MAX_CLEARANCE = 5;
    private static final int MAX_SIDE = 40;
    private static final int FIRST_SIDE = 20;
    private static final int FARTHEST = 60;
    private static final int TEXT_ERROR = -10;
    private static final int TURNS = 4;
    private static final int HALF_TURN = 2;
    private static final int DIRECTIONS = 8;
    private static final int LEFT = 4;
    private static final int DOWN = 6;
    private static final int APART = 0;
    private static final int TOUCHING = 1;
    private static final int OVERLAPPING = 2;
    private static final int NO_ITEM = -1;
    private static final int MANY = 1000000;
    private static final int[] DIRECTION_X = {1, 1, 0, -1, -1, -1, 0, 1};
    private static final int[] DIRECTION_Y = {0, 1, 1, 1, 0, -1, -1, -1};

    private final Text text;
    private final ShapeReader shapeReader;
    private final LayoutReader layoutReader;
    private final Pair pair;
    private final Places places;
    private final State state;
    private final State before;
    private final History history;
    private final Polygon polygon;
    private final Shape turned;
    private final Fraction smallest;
    private final int[] blockers;

    public NestingPlanner() {
        Shape empty = new Shape();
        text = new Text();
        shapeReader = new ShapeReader();
        layoutReader = new LayoutReader();
        pair = new Pair();
        places = new Places();
        state = new State(empty);
        before = new State(empty);
        history = new History(empty);
        polygon = new Polygon();
        turned = new Shape();
        smallest = new Fraction();
        blockers = new int[MAX_ITEMS];
    }

    // ---- shapes

    public int appendCharacter(int character) {
        if (character < 0 || character > MAX_CODE) {
            return INVALID_ARGUMENT;
        }
        if (text.length >= MAX_TEXT) {
            return CAPACITY_EXCEEDED;
        }
        text.append(character);
        return text.length;
    }

    public int clearText() {
        int previous = text.length;
        text.length = 0;
        return previous;
    }

    public int loadShape(int slot) {
        if (!isSlot(slot)) {
            return INVALID_ARGUMENT;
        }
        if (!shapeReader.read(text)) {
            return TEXT_ERROR - text.position;
        }
        text.length = 0;
        return storeTurned(shapeReader.shape, slot, 0);
    }

    public int clearShape(int slot) {
        if (!isSlot(slot)) {
            return INVALID_ARGUMENT;
        }
        Shape shape = state.slot(slot);
        if (shape.isEmpty()) {
            return ILLEGAL_STATE;
        }
        history.save(state);
        state.setSlot(slot, state.empty);
        return shape.pieces;
    }

    public int copyShape(int from, int to, int turns) {
        if (!isSlot(from) || !isSlot(to) || turns < 0 || turns >= TURNS) {
            return INVALID_ARGUMENT;
        }
        if (state.slot(from).isEmpty()) {
            return ILLEGAL_STATE;
        }
        return storeTurned(state.slot(from), to, turns);
    }

    public int pieceCount(int slot) {
        return isSlot(slot) ? state.slot(slot).pieces : INVALID_ARGUMENT;
    }

    public int doubleArea(int slot, int piece) {
        if (!hasPiece(slot, piece)) {
            return INVALID_ARGUMENT;
        }
        state.slot(slot).copyPiece(piece, 0, polygon);
        return polygon.areaTwice();
    }

    public int hullSize(int slot) {
        if (!isSlot(slot)) {
            return INVALID_ARGUMENT;
        }
        if (state.slot(slot).isEmpty()) {
            return ILLEGAL_STATE;
        }
        polygon.setHull(state.slot(slot));
        return polygon.size;
    }

    public int hullVertex(int slot, int vertex, int coordinate) {
        if (!isSlot(slot) || !isPart(coordinate) || vertex < 0) {
            return INVALID_ARGUMENT;
        }
        if (state.slot(slot).isEmpty()) {
            return ILLEGAL_STATE;
        }
        polygon.setHull(state.slot(slot));
        if (vertex >= polygon.size) {
            return NONE;
        }
        return coordinate == 0 ? polygon.x(vertex) : polygon.y(vertex);
    }

    public int extent(int slot, int direction) {
        if (!isSlot(slot) || !isDirection(direction)) {
            return INVALID_ARGUMENT;
        }
        if (state.slot(slot).isEmpty()) {
            return ILLEGAL_STATE;
        }
        return state.slot(slot).reach(directionX(direction), directionY(direction));
    }

    // ---- sums

    public int sumSize(int isNoFit, int a, int i, int b, int j) {
        if (!isPart(isNoFit) || !hasPiece(a, i) || !hasPiece(b, j)) {
            return INVALID_ARGUMENT;
        }
        return sumOf(isNoFit, a, i, b, j).size;
    }

    public int sumVertex(int isNoFit, int a, int i, int b, int j, int vertex) {
        if (!isPart(isNoFit) || !hasPiece(a, i) || !hasPiece(b, j) || vertex < 0) {
            return INVALID_ARGUMENT;
        }
        Polygon sum = sumOf(isNoFit, a, i, b, j);
        if (vertex >= sum.size) {
            return NONE;
        }
        return 1000 * sum.x(vertex) + sum.y(vertex);
    }

    public int sumDoubleArea(int a, int i, int b, int j) {
        if (!hasPiece(a, i) || !hasPiece(b, j)) {
            return INVALID_ARGUMENT;
        }
        return sumOf(0, a, i, b, j).areaTwice();
    }

    // ---- two shapes

    public int contact(int a, int b, int x, int y) {
        if (!isSlot(a) || !isSlot(b) || !isNear(x) || !isNear(y)) {
            return INVALID_ARGUMENT;
        }
        if (isSlotEmpty(a) || isSlotEmpty(b)) {
            return ILLEGAL_STATE;
        }
        return pair.relation(state.slot(a), state.slot(b), x, y);
    }

    public int squaredGap(int a, int b, int x, int y, int part) {
        if (!isSlot(a) || !isSlot(b) || !isNear(x) || !isNear(y) || !isPart(part)) {
            return INVALID_ARGUMENT;
        }
        if (isSlotEmpty(a) || isSlotEmpty(b)) {
            return ILLEGAL_STATE;
        }
        pair.measureGap(state.slot(a), state.slot(b), x, y);
        return pair.answer.part(part);
    }

    public int slide(int a, int b, int x, int y, int direction, int part) {
        boolean slots = isSlot(a) && isSlot(b);
        if (!slots || !isNear(x) || !isNear(y) || !isDirection(direction) || !isPart(part)) {
            return INVALID_ARGUMENT;
        }
        if (isSlotEmpty(a) || isSlotEmpty(b)) {
            return ILLEGAL_STATE;
        }
        Shape fixed = state.slot(a);
        Shape moved = state.slot(b);
        if (pair.relation(fixed, moved, x, y) == OVERLAPPING) {
            return ILLEGAL_STATE;
        }
        if (!pair.isStopped(fixed, moved, x, y, directionX(direction), directionY(direction))) {
            return NONE;
        }
        return pair.answer.part(part);
    }

    // ---- container

    public int setClearance(int clearance) {
        if (clearance < 0 || clearance > MAX_CLEARANCE) {
            return INVALID_ARGUMENT;
        }
        before.copy(state);
        state.clearance = clearance;
        if (!allItemsFit()) {
            state.copy(before);
            return ILLEGAL_STATE;
        }
        history.save(before);
        return before.clearance;
    }

    public int setContainer(int width, int height) {
        if (width < 1 || width > MAX_SIDE || height < 1 || height > MAX_SIDE) {
            return INVALID_ARGUMENT;
        }
        history.save(state);
        int removed = state.count;
        state.width = width;
        state.height = height;
        state.count = 0;
        return removed;
    }

    public int place(int slot, int x, int y) {
        if (!isSlot(slot) || !isNear(x) || !isNear(y)) {
            return INVALID_ARGUMENT;
        }
        if (!fits(state.slot(slot), x, y)) {
            return ILLEGAL_STATE;
        }
        if (state.count >= MAX_ITEMS) {
            return CAPACITY_EXCEEDED;
        }
        return addItem(state.slot(slot), x, y);
    }

    public int placeBottomLeft(int slot) {
        int error = placingError(slot);
        if (error != 0) {
            return error;
        }
        return addAtBottomLeft(state.slot(slot));
    }

    public int placeTurned(int slot) {
        int error = placingError(slot);
        if (error != 0) {
            return error;
        }
        int turns = bestTurns(state.slot(slot));
        if (turns >= TURNS) {
            return NONE;
        }
        Shape shape = new Shape();
        shape.setTurned(state.slot(slot), turns);
        return addAtBottomLeft(shape);
    }

    public int loadLayout() {
        if (!layoutReader.read(text)) {
            return TEXT_ERROR - text.position;
        }
        if (layoutReader.count > MAX_ITEMS) {
            return ILLEGAL_STATE;
        }
        before.copy(state);
        state.count = 0;
        for (int item = 0; item < layoutReader.count; item++) {
            Shape shape = state.slot(layoutReader.slot(item));
            if (!fits(shape, layoutReader.x(item), layoutReader.y(item))) {
                state.copy(before);
                return ILLEGAL_STATE;
            }
            state.add(shape, layoutReader.x(item), layoutReader.y(item));
        }
        history.save(before);
        text.length = 0;
        return state.count;
    }

    public int slideItem(int item, int direction) {
        if (!isItem(item) || !isDirection(direction)) {
            return INVALID_ARGUMENT;
        }
        before.copy(state);
        places.prepare(state, state.shape(item), item);
        int steps = moveItem(item, direction);
        if (steps == 0) {
            return NONE;
        }
        history.save(before);
        return steps;
    }

    public int compact() {
        before.copy(state);
        int steps = 0;
        int moved = 1;
        for (int round = 0; round < MANY && moved > 0; round++) {
            moved = 0;
            for (int item = 0; item < state.count; item++) {
                places.prepare(state, state.shape(item), item);
                moved += moveItem(item, DOWN);
                moved += moveItem(item, LEFT);
            }
            steps += moved;
        }
        if (steps == 0) {
            return NONE;
        }
        history.save(before);
        return steps;
    }

    public int removeItem(int item) {
        if (!isItem(item)) {
            return INVALID_ARGUMENT;
        }
        history.save(state);
        state.remove(item);
        return state.count;
    }

    public int itemCount() {
        return state.count;
    }

    public int itemPlace(int item, int coordinate) {
        if (!isItem(item) || !isPart(coordinate)) {
            return INVALID_ARGUMENT;
        }
        return coordinate == 0 ? state.x(item) : state.y(item);
    }

    public int freePlaces(int slot) {
        if (!isSlot(slot)) {
            return INVALID_ARGUMENT;
        }
        if (isSlotEmpty(slot)) {
            return ILLEGAL_STATE;
        }
        places.prepare(state, state.slot(slot), NO_ITEM);
        return places.countFree();
    }

    public int itemGap(int first, int second, int part) {
        if (!isItem(first) || !isItem(second) || first == second || !isPart(part)) {
            return INVALID_ARGUMENT;
        }
        measureItemGap(first, second);
        return pair.answer.part(part);
    }

    public int closestPair() {
        int closest = NONE;
        smallest.setInfinite();
        for (int first = 0; first < state.count; first++) {
            for (int second = first + 1; second < state.count; second++) {
                measureItemGap(first, second);
                if (smallest.lowerTo(pair.answer.numerator, pair.answer.denominator)) {
                    closest = 10 * first + second;
                }
            }
        }
        return closest;
    }

    public int itemAt(int x, int y) {
        if (!isNear(x) || !isNear(y)) {
            return INVALID_ARGUMENT;
        }
        for (int item = 0; item < state.count; item++) {
            if (itemContains(item, x, y)) {
                return item;
            }
        }
        return NONE;
    }

    public int escapes(int item, int direction) {
        if (!isItem(item) || !isDirection(direction)) {
            return INVALID_ARGUMENT;
        }
        return blockersOf(item, direction) == 0 ? 1 : 0;
    }

    public int removalOrder(int direction, int k) {
        if (!isDirection(direction) || k < 0) {
            return INVALID_ARGUMENT;
        }
        for (int item = 0; item < state.count && item < blockers.length; item++) {
            blockers[item] = blockersOf(item, direction);
        }
        int present = (1 << state.count) - 1;
        for (int index = 0; index < state.count; index++) {
            int item = firstUnblocked(present);
            if (item == NO_ITEM) {
                return NONE;
            }
            if (index == k) {
                return item;
            }
            present -= 1 << item;
        }
        return NONE;
    }

    public int packedDoubleArea() {
        int sum = 0;
        for (int item = 0; item < state.count; item++) {
            Shape shape = state.shape(item);
            for (int piece = 0; piece < shape.pieces; piece++) {
                shape.copyPiece(piece, 0, polygon);
                sum += polygon.areaTwice();
            }
        }
        return sum;
    }

    public int boundingBox(int side) {
        if (side < 0 || side > 3) {
            return INVALID_ARGUMENT;
        }
        if (state.count == 0) {
            return NONE;
        }
        int best = itemSide(0, side);
        for (int item = 1; item < state.count; item++) {
            int value = itemSide(item, side);
            best = side < 2 ? Math.min(best, value) : Math.max(best, value);
        }
        return best;
    }

    public int touchingPairs() {
        int pairs = 0;
        for (int first = 0; first < state.count; first++) {
            for (int second = first + 1; second < state.count; second++) {
                int x = state.x(second) - state.x(first);
                int y = state.y(second) - state.y(first);
                if (pair.relation(state.shape(first), state.shape(second), x, y) == TOUCHING) {
                    pairs++;
                }
            }
        }
        return pairs;
    }

    public int undo() {
        if (history.count == 0) {
            return ILLEGAL_STATE;
        }
        history.restore(state);
        return history.count;
    }

    // ---- arguments

    private static boolean isSlot(int slot) {
        return slot >= 0 && slot < SLOTS;
    }

    private static boolean isDirection(int direction) {
        return direction >= 0 && direction < DIRECTIONS;
    }

    private static boolean isNear(int coordinate) {
        return coordinate >= -FARTHEST && coordinate <= FARTHEST;
    }

    /** Whether it is 0 or 1, as a part, a coordinate and isNoFit have to be. */
    private static boolean isPart(int part) {
        return part == 0 || part == 1;
    }

    private static int directionX(int direction) {
        return direction >= 0 && direction < DIRECTION_X.length ? DIRECTION_X[direction] : 0;
    }

    private static int directionY(int direction) {
        return direction >= 0 && direction < DIRECTION_Y.length ? DIRECTION_Y[direction] : 0;
    }

    private boolean isSlotEmpty(int slot) {
        return state.slot(slot).isEmpty();
    }

    private boolean hasPiece(int slot, int piece) {
        return isSlot(slot) && piece >= 0 && piece < state.slot(slot).pieces;
    }

    private boolean isItem(int item) {
        return item >= 0 && item < state.count;
    }

    // ---- parts of the calls

    /** Puts a new shape into the slot, as the given one may change (the reader's) or be shared. */
    private int storeTurned(Shape source, int slot, int turns) {
        Shape shape = new Shape();
        shape.setTurned(source, turns);
        history.save(state);
        state.setSlot(slot, shape);
        return shape.pieces;
    }

    private Polygon sumOf(int isNoFit, int a, int i, int b, int j) {
        pair.addUp(state.slot(a), i, state.slot(b), j, isNoFit == 1 ? HALF_TURN : 0);
        return pair.sum;
    }

    private boolean fits(Shape shape, int x, int y) {
        if (shape.isEmpty()) {
            return false;
        }
        places.prepare(state, shape, NO_ITEM);
        return places.isFree(x, y);
    }

    private boolean allItemsFit() {
        for (int item = 0; item < state.count; item++) {
            places.prepare(state, state.shape(item), item);
            if (!places.isFree(state.x(item), state.y(item))) {
                return false;
            }
        }
        return true;
    }

    private int addItem(Shape shape, int x, int y) {
        history.save(state);
        state.add(shape, x, y);
        return state.count - 1;
    }

    /** Why no shape can be placed from the slot, wherever it is put; 0 if one can. */
    private int placingError(int slot) {
        if (!isSlot(slot)) {
            return INVALID_ARGUMENT;
        }
        if (isSlotEmpty(slot)) {
            return ILLEGAL_STATE;
        }
        return state.count >= MAX_ITEMS ? CAPACITY_EXCEEDED : 0;
    }

    private int addAtBottomLeft(Shape shape) {
        places.prepare(state, shape, NO_ITEM);
        if (!places.findBottomLeft()) {
            return NONE;
        }
        return addItem(shape, places.foundX, places.foundY);
    }

    /** The turns that placeTurned() takes, or TURNS if there is no place for any. */
    private int bestTurns(Shape shape) {
        int best = TURNS;
        int bestTop = 0;
        int bestRight = 0;
        for (int turns = 0; turns < TURNS; turns++) {
            turned.setTurned(shape, turns);
            places.prepare(state, turned, NO_ITEM);
            if (places.findBottomLeft()) {
                int top = places.foundY + turned.top;
                int right = places.foundX + turned.right;
                if (best == TURNS || top < bestTop || top == bestTop && right < bestRight) {
                    best = turns;
                    bestTop = top;
                    bestRight = right;
                }
            }
        }
        return best;
    }

    /** Moves an item, for which the places are prepared, as far as it can go; answers the steps. */
    private int moveItem(int item, int direction) {
        int dx = directionX(direction);
        int dy = directionY(direction);
        int steps = 0;
        int x = state.x(item);
        int y = state.y(item);
        while (steps < MANY && places.isFree(x + dx, y + dy)) {
            x += dx;
            y += dy;
            steps++;
        }
        state.setPlace(item, x, y);
        return steps;
    }

    private void measureItemGap(int first, int second) {
        int x = state.x(second) - state.x(first);
        int y = state.y(second) - state.y(first);
        pair.measureGap(state.shape(first), state.shape(second), x, y);
    }

    private boolean itemContains(int item, int x, int y) {
        Shape shape = state.shape(item);
        for (int piece = 0; piece < shape.pieces; piece++) {
            shape.copyPiece(piece, 0, polygon);
            if (polygon.locate(x - state.x(item), y - state.y(item)) != APART) {
                return true;
            }
        }
        return false;
    }

    /** The items, a bit each, that are in the way of an item that is taken out in a direction. */
    private int blockersOf(int item, int direction) {
        int dx = directionX(direction);
        int dy = directionY(direction);
        int found = 0;
        for (int other = 0; other < state.count; other++) {
            int x = state.x(item) - state.x(other);
            int y = state.y(item) - state.y(other);
            if (other != item && pair.isStopped(state.shape(other), state.shape(item), x, y, dx, dy)) {
                found |= 1 << other;
            }
        }
        return found;
    }

    private int firstUnblocked(int present) {
        for (int item = 0; item < state.count && item < blockers.length; item++) {
            if ((present >> item & 1) == 1 && (blockers[item] & present) == 0) {
                return item;
            }
        }
        return NO_ITEM;
    }

    private int itemSide(int item, int side) {
        Shape shape = state.shape(item);
        switch (side) {
            case 0: return state.x(item) + shape.left;
            case 1: return state.y(item) + shape.bottom;
            case 2: return state.x(item) + shape.right;
            default: return state.y(item) + shape.top;
        }
    }

    /** A fraction that is 0 or more; 1 / 0 stands for one that is greater than all others. */
    private static final class Fraction {
        long numerator;
        long denominator;

        void set(long newNumerator, long newDenominator) {
            numerator = newNumerator;
            denominator = newDenominator;
        }

        void setInfinite() {
            set(1, 0);
        }

        /** Takes the other value if it is smaller, and tells whether it was. */
        boolean lowerTo(long otherNumerator, long otherDenominator) {
            boolean isSmaller = otherNumerator * denominator < numerator * otherDenominator;
            if (isSmaller) {
                set(otherNumerator, otherDenominator);
            }
            return isSmaller;
        }

        /** The numerator (0) or the denominator (1) in lowest terms. */
        int part(int part) {
            long divisor = commonDivisor();
            long value = part == 0 ? numerator : denominator;
            return divisor == 0 ? 0 : (int) (value / divisor);
        }

        private long commonDivisor() {
            long a = numerator;
            long b = denominator;
            for (int step = 0; step < MANY && b != 0; step++) {
                long rest = a % b;
                a = b;
                b = rest;
            }
            return a;
        }
    }

    /** The text that is built, and where reading it stands. */
    private static final class Text {
        static final int END = -1;

        final int[] codes = new int[MAX_TEXT];
        int length;
        int position;
        int number;

        void append(int code) {
            if (length >= 0 && length < codes.length) {
                codes[length] = code;
                length++;
            }
        }

        int current() {
            boolean isInside = position >= 0 && position < length && position < codes.length;
            return isInside ? codes[position] : END;
        }

        void skipSpaces() {
            while (position >= 0 && position < codes.length && position < length
                    && codes[position] == ' ') {
                position++;
            }
        }

        boolean isAtEnd() {
            skipSpaces();
            return current() == END;
        }

        /** Whether the code stands behind the spaces here; it is not passed. */
        boolean isNext(int code) {
            skipSpaces();
            return current() == code;
        }

        /** Passes the code behind the spaces here, or stays before another one. */
        boolean accept(int code) {
            skipSpaces();
            boolean isThere = current() == code;
            if (isThere) {
                position++;
            }
            return isThere;
        }

        /** Passes a digit right here and answers its value, or stays and answers -1. */
        int takeDigit() {
            int code = current();
            if (code < '0' || code > '9') {
                return -1;
            }
            position++;
            return code - '0';
        }

        /** A number of a shape: one digit, and spaces may stand behind the sign. */
        boolean readNumber() {
            int sign = accept('-') ? -1 : 1;
            skipSpaces();
            int digit = takeDigit();
            number = sign * digit;
            return digit >= 0;
        }

        /** A place of a layout: one or two digits, and no spaces in it. */
        boolean readPlace() {
            int sign = accept('-') ? -1 : 1;
            int value = takeDigit();
            if (value < 0) {
                return false;
            }
            if (value > 0) {
                int second = takeDigit();
                value = second < 0 ? value : 10 * value + second;
            }
            number = sign * value;
            return true;
        }
    }

    /** Reads a text as a shape; if it is none, the text then stands at the error position. */
    private static final class ShapeReader {
        final Shape shape = new Shape();
        final Polygon piece = new Polygon();

        boolean read(Text text) {
            shape.clear();
            text.position = 0;
            for (int count = 0; count < MAX_PIECES && !text.isAtEnd(); count++) {
                if (!readPiece(text)) {
                    return false;
                }
                shape.addPiece(piece);
            }
            return text.isAtEnd() && !shape.isEmpty();
        }

        private boolean readPiece(Text text) {
            piece.clear();
            for (int count = 0; count < MAX_VERTICES && !text.isNext(';'); count++) {
                if (!readVertex(text)) {
                    return false;
                }
            }
            return text.isNext(';') && piece.isConvex() && text.accept(';');
        }

        private boolean readVertex(Text text) {
            if (!text.readNumber()) {
                return false;
            }
            int x = text.number;
            if (!text.accept(',') || !text.readNumber()) {
                return false;
            }
            piece.add(x, text.number);
            return true;
        }
    }

    /** Reads a text as a layout; if it is none, the text then stands at the error position. */
    private static final class LayoutReader {
        final int[] slots = new int[MAX_ITEMS];
        final int[] xs = new int[MAX_ITEMS];
        final int[] ys = new int[MAX_ITEMS];
        int count;

        boolean read(Text text) {
            count = 0;
            text.position = 0;
            for (int item = 0; item < MAX_TEXT && !text.isAtEnd(); item++) {
                if (!readItem(text)) {
                    return false;
                }
            }
            return text.isAtEnd();
        }

        int slot(int item) {
            return item >= 0 && item < slots.length ? slots[item] : 0;
        }

        int x(int item) {
            return item >= 0 && item < xs.length ? xs[item] : 0;
        }

        int y(int item) {
            return item >= 0 && item < ys.length ? ys[item] : 0;
        }

        private boolean readItem(Text text) {
            int slot = text.current() - '0';
            if (slot < 0 || slot >= SLOTS) {
                return false;
            }
            text.position++;
            if (!text.accept('@') || !text.readPlace()) {
                return false;
            }
            int x = text.number;
            if (!text.accept(',') || !text.readPlace()) {
                return false;
            }
            if (!text.accept(';')) {
                return false;
            }
            keep(slot, x, text.number);
            return true;
        }

        /** Counts every item, but keeps no more than can be placed. */
        private void keep(int slot, int x, int y) {
            if (count >= 0 && count < slots.length && count < xs.length && count < ys.length) {
                slots[count] = slot;
                xs[count] = x;
                ys[count] = y;
            }
            count++;
        }
    }

    /** One to three convex pieces, or none for an empty slot. */
    private static final class Shape {
        final int[] starts = new int[MAX_PIECES + 1];
        final int[] xs = new int[MAX_PIECES * MAX_VERTICES];
        final int[] ys = new int[MAX_PIECES * MAX_VERTICES];
        int pieces;
        int vertices;
        int left;
        int bottom;
        int right;
        int top;

        boolean isEmpty() {
            return pieces == 0;
        }

        void clear() {
            pieces = 0;
            vertices = 0;
        }

        int x(int vertex) {
            return vertex >= 0 && vertex < xs.length ? xs[vertex] : 0;
        }

        int y(int vertex) {
            return vertex >= 0 && vertex < ys.length ? ys[vertex] : 0;
        }

        /** The number of a piece's first vertex; that of the piece behind the last is the end. */
        int start(int piece) {
            return piece >= 0 && piece < starts.length ? starts[piece] : vertices;
        }

        void addPiece(Polygon piece) {
            for (int k = 0; k < piece.size; k++) {
                addVertex(piece.x(k), piece.y(k));
            }
            endPiece();
        }

        /** Becomes the source turned by quarter turns. */
        void setTurned(Shape source, int turns) {
            clear();
            for (int piece = 0; piece < source.pieces; piece++) {
                for (int k = source.start(piece); k < source.start(piece + 1); k++) {
                    addVertex(turnedX(source.x(k), source.y(k), turns),
                              turnedY(source.x(k), source.y(k), turns));
                }
                endPiece();
            }
        }

        /** Copies a piece, turned by quarter turns. */
        void copyPiece(int piece, int turns, Polygon target) {
            target.clear();
            for (int k = start(piece); k < start(piece + 1); k++) {
                target.add(turnedX(x(k), y(k), turns), turnedY(x(k), y(k), turns));
            }
        }

        int reach(int dx, int dy) {
            int best = x(0) * dx + y(0) * dy;
            for (int k = 1; k < vertices; k++) {
                best = Math.max(best, x(k) * dx + y(k) * dy);
            }
            return best;
        }

        int lowestVertex() {
            int lowest = 0;
            for (int k = 1; k < vertices; k++) {
                if (y(k) < y(lowest) || y(k) == y(lowest) && x(k) < x(lowest)) {
                    lowest = k;
                }
            }
            return lowest;
        }

        /** The vertex that follows on the hull: no other lies to the right of the way to it. */
        int nextOnHull(int vertex) {
            int best = vertex;
            for (int k = 0; k < vertices; k++) {
                int bestX = x(best) - x(vertex);
                int bestY = y(best) - y(vertex);
                int otherX = x(k) - x(vertex);
                int otherY = y(k) - y(vertex);
                int turn = bestX * otherY - bestY * otherX;
                boolean isFarther = otherX * otherX + otherY * otherY > bestX * bestX + bestY * bestY;
                if (turn < 0 || turn == 0 && isFarther) {
                    best = k;
                }
            }
            return best;
        }

        private void addVertex(int x, int y) {
            if (vertices < 0 || vertices >= xs.length || vertices >= ys.length) {
                return;
            }
            xs[vertices] = x;
            ys[vertices] = y;
            left = vertices == 0 ? x : Math.min(left, x);
            bottom = vertices == 0 ? y : Math.min(bottom, y);
            right = vertices == 0 ? x : Math.max(right, x);
            top = vertices == 0 ? y : Math.max(top, y);
            vertices++;
        }

        private void endPiece() {
            if (pieces >= 0 && pieces < starts.length - 1) {
                pieces++;
                starts[pieces] = vertices;
            }
        }

        private static int turnedX(int x, int y, int turns) {
            switch (turns) {
                case 0: return x;
                case 1: return -y;
                case 2: return -x;
                default: return y;
            }
        }

        private static int turnedY(int x, int y, int turns) {
            return turnedX(y, -x, turns);
        }
    }

    /**
     * A convex polygon. Its vertices are kept as they came, counterclockwise, but numbered from the
     * lowest one, of two lowest ones the left one.
     */
    private static final class Polygon {
        static final int CAPACITY = MAX_PIECES * MAX_VERTICES;

        final int[] xs = new int[CAPACITY];
        final int[] ys = new int[CAPACITY];
        int size;
        int lowest;
        int left;
        int bottom;
        int right;
        int top;

        void clear() {
            size = 0;
        }

        void add(int x, int y) {
            if (size < 0 || size >= xs.length || size >= ys.length) {
                return;
            }
            xs[size] = x;
            ys[size] = y;
            boolean isFirst = size == 0;
            if (isFirst || y < bottom || y == bottom && x < x(0)) {
                lowest = size;
            }
            left = isFirst || x < left ? x : left;
            bottom = isFirst || y < bottom ? y : bottom;
            right = isFirst || x > right ? x : right;
            top = isFirst || y > top ? y : top;
            size++;
        }

        /** The vertex behind the last one is the first again: an edge goes from vertex to vertex + 1. */
        int x(int vertex) {
            int k = lowest + vertex;
            if (k >= size) {
                k -= size;
            }
            return k >= 0 && k < xs.length ? xs[k] : 0;
        }

        int y(int vertex) {
            int k = lowest + vertex;
            if (k >= size) {
                k -= size;
            }
            return k >= 0 && k < ys.length ? ys[k] : 0;
        }

        /** Above 0 if the point is to the left of an edge, 0 if it is on its line. */
        int side(int edge, int x, int y) {
            int edgeX = x(edge + 1) - x(edge);
            int edgeY = y(edge + 1) - y(edge);
            return edgeX * (y - y(edge)) - edgeY * (x - x(edge));
        }

        /** Whether every edge has all other vertices to its left: then the boundary goes round once. */
        boolean isConvex() {
            for (int edge = 0; edge < size; edge++) {
                int next = edge + 1 < size ? edge + 1 : 0;
                for (int k = 0; k < size; k++) {
                    if (k != edge && k != next && side(edge, x(k), y(k)) <= 0) {
                        return false;
                    }
                }
            }
            return size >= 3;
        }

        void setHull(Shape shape) {
            clear();
            int first = shape.lowestVertex();
            int vertex = first;
            for (int count = 0; count < CAPACITY; count++) {
                add(shape.x(vertex), shape.y(vertex));
                vertex = shape.nextOnHull(vertex);
                if (shape.x(vertex) == shape.x(first) && shape.y(vertex) == shape.y(first)) {
                    return;
                }
            }
        }

        /** A square around a point; without a radius it is the point alone. */
        void setSquare(int x, int y, int radius) {
            clear();
            add(x - radius, y - radius);
            if (radius > 0) {
                add(x + radius, y - radius);
                add(x + radius, y + radius);
                add(x - radius, y + radius);
            }
        }

        /** Becomes the Minkowski sum: the edges of both, in the order of their angles. */
        void setSum(Polygon first, Polygon second) {
            clear();
            int i = 0;
            int j = 0;
            int edges = first.size + second.size;
            for (int taken = 0; taken < edges && (i < first.size || j < second.size); taken++) {
                add(first.x(i) + second.x(j), first.y(i) + second.y(j));
                int turn = turnBetween(first, i, second, j);
                if (turn >= 0) {
                    i++;
                }
                if (turn <= 0) {
                    j++;
                }
            }
        }

        /**
         * Above 0 if the edge of the first comes first, below 0 if that of the second, 0 if they are
         * parallel. As both begin at the bottom, the next two edges are less than a half turn apart.
         */
        private static int turnBetween(Polygon first, int i, Polygon second, int j) {
            if (i >= first.size) {
                return -1;
            }
            if (j >= second.size) {
                return 1;
            }
            int firstX = first.x(i + 1) - first.x(i);
            int firstY = first.y(i + 1) - first.y(i);
            int secondX = second.x(j + 1) - second.x(j);
            int secondY = second.y(j + 1) - second.y(j);
            return firstX * secondY - firstY * secondX;
        }

        int areaTwice() {
            int sum = 0;
            for (int k = 0; k < size; k++) {
                sum += x(k) * y(k + 1) - x(k + 1) * y(k);
            }
            return sum;
        }

        /** OVERLAPPING for a point of the interior, TOUCHING for one of the boundary, else APART. */
        int locate(int x, int y) {
            if (x < left || x > right || y < bottom || y > top) {
                return APART;
            }
            int result = OVERLAPPING;
            for (int edge = 0; edge < size; edge++) {
                int side = side(edge, x, y);
                if (side < 0) {
                    return APART;
                }
                if (side == 0) {
                    result = TOUCHING;
                }
            }
            return result;
        }

        /** Lowers a fraction to the squared distance of a point, if that is smaller. */
        void lowerToDistance(int x, int y, Fraction best) {
            if (locate(x, y) != APART) {
                best.lowerTo(0, 1);
                return;
            }
            for (int edge = 0; edge < size; edge++) {
                long toX = x - x(edge);
                long toY = y - y(edge);
                long edgeX = x(edge + 1) - x(edge);
                long edgeY = y(edge + 1) - y(edge);
                long along = toX * edgeX + toY * edgeY;
                long square = edgeX * edgeX + edgeY * edgeY;
                best.lowerTo(toX * toX + toY * toY, 1);
                if (along > 0 && along < square) {
                    long side = side(edge, x, y);
                    best.lowerTo(side * side, square);
                }
            }
        }

        /**
         * Tells whether a ray comes into the interior, and lowers a fraction to the distance (in
         * directions) at which it does. Each edge leaves of the ray's line what is to its left: what is
         * behind low, for edges that face the ray, and what is before high, for the others.
         */
        boolean lowerToEntry(int x, int y, int dx, int dy, Fraction best) {
            long low = -1;
            long lowBelow = 0;
            long high = 1;
            long highBelow = 0;
            for (int edge = 0; edge < size; edge++) {
                long side = side(edge, x, y);
                long growth = side(edge, x + dx, y + dy) - side;
                if (growth == 0 && side <= 0) {
                    return false;
                }
                if (growth > 0 && -side * lowBelow > low * growth) {
                    low = -side;
                    lowBelow = growth;
                }
                if (growth < 0 && side * highBelow < high * -growth) {
                    high = side;
                    highBelow = -growth;
                }
            }
            if (high <= 0 || low * highBelow >= high * lowBelow) {
                return false;
            }
            best.lowerTo(Math.max(low, 0), lowBelow);
            return true;
        }
    }

    /** How a fixed shape and a moved one lie, asked of the no-fit polygons of their pieces. */
    private static final class Pair {
        final Polygon first = new Polygon();
        final Polygon second = new Polygon();
        final Polygon sum = new Polygon();
        final Fraction answer = new Fraction();

        /** Makes the sum of two pieces, of which the second is turned; a half turn negates it. */
        void addUp(Shape a, int i, Shape b, int j, int turns) {
            a.copyPiece(i, 0, first);
            b.copyPiece(j, turns, second);
            sum.setSum(first, second);
        }

        int relation(Shape fixed, Shape moved, int x, int y) {
            int result = APART;
            for (int i = 0; i < fixed.pieces; i++) {
                for (int j = 0; j < moved.pieces; j++) {
                    addUp(fixed, i, moved, j, HALF_TURN);
                    result = Math.max(result, sum.locate(x, y));
                }
            }
            return result;
        }

        void measureGap(Shape fixed, Shape moved, int x, int y) {
            answer.setInfinite();
            for (int i = 0; i < fixed.pieces; i++) {
                for (int j = 0; j < moved.pieces; j++) {
                    addUp(fixed, i, moved, j, HALF_TURN);
                    sum.lowerToDistance(x, y, answer);
                }
            }
        }

        /** Whether a moved shape, which does not overlap yet, is stopped; the answer is then where. */
        boolean isStopped(Shape fixed, Shape moved, int x, int y, int dx, int dy) {
            answer.setInfinite();
            boolean result = false;
            for (int i = 0; i < fixed.pieces; i++) {
                for (int j = 0; j < moved.pieces; j++) {
                    addUp(fixed, i, moved, j, HALF_TURN);
                    if (sum.lowerToEntry(x, y, dx, dy, answer)) {
                        result = true;
                    }
                }
            }
            return result;
        }
    }

    /** The places at which a shape fits: those of a rectangle that are in no obstacle's interior. */
    private static final class Places {
        static final int MAX_OBSTACLES = MAX_ITEMS * MAX_PIECES * MAX_PIECES;

        final Pair pair = new Pair();
        final Polygon square = new Polygon();
        final Polygon[] obstacles = new Polygon[MAX_OBSTACLES];
        int count;
        int left;
        int bottom;
        int right;
        int top;
        int foundX;
        int foundY;

        Places() {
            for (int k = 0; k < obstacles.length; k++) {
                obstacles[k] = new Polygon();
            }
        }

        /** Takes all items but one for obstacles: their no-fit polygons, widened by the clearance. */
        void prepare(State state, Shape shape, int except) {
            left = -shape.left;
            bottom = -shape.bottom;
            right = state.width - shape.right;
            top = state.height - shape.top;
            count = 0;
            for (int item = 0; item < state.count; item++) {
                if (item == except) {
                    continue;
                }
                square.setSquare(state.x(item), state.y(item), state.clearance);
                Shape fixed = state.shape(item);
                for (int i = 0; i < fixed.pieces; i++) {
                    for (int j = 0; j < shape.pieces; j++) {
                        pair.addUp(fixed, i, shape, j, HALF_TURN);
                        Polygon obstacle = obstacle(count);
                        if (obstacle != null) {
                            obstacle.setSum(pair.sum, square);
                            count++;
                        }
                    }
                }
            }
        }

        private Polygon obstacle(int k) {
            return k >= 0 && k < obstacles.length ? obstacles[k] : null;
        }

        boolean isFree(int x, int y) {
            if (x < left || x > right || y < bottom || y > top) {
                return false;
            }
            for (int k = 0; k < count; k++) {
                Polygon obstacle = obstacle(k);
                if (obstacle != null && obstacle.locate(x, y) == OVERLAPPING) {
                    return false;
                }
            }
            return true;
        }

        int countFree() {
            int free = 0;
            for (int y = bottom; y <= top; y++) {
                for (int x = left; x <= right; x++) {
                    if (isFree(x, y)) {
                        free++;
                    }
                }
            }
            return free;
        }

        boolean findBottomLeft() {
            for (int y = bottom; y <= top; y++) {
                for (int x = left; x <= right; x++) {
                    if (isFree(x, y)) {
                        foundX = x;
                        foundY = y;
                        return true;
                    }
                }
            }
            return false;
        }
    }

    /** What undo() brings back: slots, container, clearance and items. */
    private static final class State {
        final Shape empty;
        final Shape[] slots = new Shape[SLOTS];
        final Shape[] shapes = new Shape[MAX_ITEMS];
        final int[] xs = new int[MAX_ITEMS];
        final int[] ys = new int[MAX_ITEMS];
        int count;
        int width;
        int height;
        int clearance;

        State(Shape empty) {
            this.empty = empty;
            width = FIRST_SIDE;
            height = FIRST_SIDE;
            for (int k = 0; k < slots.length; k++) {
                slots[k] = empty;
            }
            for (int k = 0; k < shapes.length; k++) {
                shapes[k] = empty;
            }
        }

        void copy(State other) {
            for (int k = 0; k < slots.length; k++) {
                slots[k] = other.slot(k);
            }
            for (int k = 0; k < other.count; k++) {
                setItem(k, other.shape(k), other.x(k), other.y(k));
            }
            count = other.count;
            width = other.width;
            height = other.height;
            clearance = other.clearance;
        }

        Shape slot(int slot) {
            Shape shape = slot >= 0 && slot < slots.length ? slots[slot] : null;
            return shape == null ? empty : shape;
        }

        void setSlot(int slot, Shape shape) {
            if (slot >= 0 && slot < slots.length) {
                slots[slot] = shape;
            }
        }

        Shape shape(int item) {
            Shape shape = item >= 0 && item < shapes.length ? shapes[item] : null;
            return shape == null ? empty : shape;
        }

        int x(int item) {
            return item >= 0 && item < xs.length ? xs[item] : 0;
        }

        int y(int item) {
            return item >= 0 && item < ys.length ? ys[item] : 0;
        }

        void setPlace(int item, int x, int y) {
            if (item >= 0 && item < xs.length && item < ys.length) {
                xs[item] = x;
                ys[item] = y;
            }
        }

        private void setItem(int item, Shape shape, int x, int y) {
            if (item >= 0 && item < shapes.length) {
                shapes[item] = shape;
                setPlace(item, x, y);
            }
        }

        void add(Shape shape, int x, int y) {
            if (count < shapes.length) {
                setItem(count, shape, x, y);
                count++;
            }
        }

        void remove(int item) {
            for (int k = item; k < count - 1; k++) {
                setItem(k, shape(k + 1), x(k + 1), y(k + 1));
            }
            count--;
        }
    }

    /** The states that undo() can bring back, the oldest one first. */
    private static final class History {
        final State[] states = new State[MAX_SAVED];
        int count;

        History(Shape empty) {
            for (int k = 0; k < states.length; k++) {
                states[k] = new State(empty);
            }
        }

        void save(State state) {
            if (count >= states.length) {
                discardOldest();
            }
            State target = saved(count);
            if (target != null) {
                target.copy(state);
                count++;
            }
        }

        void restore(State state) {
            State source = saved(count - 1);
            if (source != null) {
                state.copy(source);
                count--;
            }
        }

        private State saved(int k) {
            return k >= 0 && k < states.length ? states[k] : null;
        }

        /** Its object is used again for the next state that is saved. */
        private void discardOldest() {
            State oldest = saved(0);
            for (int k = 0; k < states.length - 1; k++) {
                states[k] = states[k + 1];
            }
            if (states.length > 0) {
                states[states.length - 1] = oldest;
            }
            count--;
        }
    }
}
