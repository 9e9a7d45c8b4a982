import java.lang.reflect.Field;
import java.lang.reflect.Method;
import java.lang.reflect.Modifier;
import java.util.Arrays;
import java.util.List;
import java.util.TreeSet;

/** The public face, the constants and what a new object answers (promise 1). */
final class FaceTest {
    private static final Checks checks = new Checks();
    private static final List<String> METHODS = List.of(
        "appendCharacter 1", "clearText 0", "loadShape 1", "clearShape 1", "copyShape 3", "pieceCount 1",
        "doubleArea 2", "hullSize 1", "hullVertex 3", "extent 2", "sumSize 5", "sumVertex 6", "sumDoubleArea 4",
        "contact 4", "squaredGap 5", "slide 6", "setClearance 1", "setContainer 2", "place 3",
        "placeBottomLeft 1", "placeTurned 1", "loadLayout 0", "slideItem 2", "compact 0", "removeItem 1",
        "itemCount 0", "itemPlace 2", "freePlaces 1", "itemGap 3", "closestPair 0", "itemAt 2", "escapes 2",
        "removalOrder 2", "packedDoubleArea 0", "boundingBox 1", "touchingPairs 0", "undo 0");
    private static final List<String> CONSTANTS =
        List.of("INVALID_ARGUMENT", "ILLEGAL_STATE", "CAPACITY_EXCEEDED", "NONE");

    public static void main(String[] args) {
        methodsAreThoseOfTheDocument();
        constantsAreThoseOfTheDocument();
        newObjectIsEmpty();
        newObjectHasContainerOf20By20();
        objectsShareNothing();
        checks.finish();
    }

    private static void methodsAreThoseOfTheDocument() {
        TreeSet<String> found = new TreeSet<>();
        TreeSet<String> hidden = new TreeSet<>();
        for (Method method : NestingPlanner.class.getDeclaredMethods()) {
            if (Modifier.isPrivate(method.getModifiers())) {
                hidden.add(method.getName());
                continue;
            }
            boolean plain = method.getModifiers() == Modifier.PUBLIC && method.getReturnType() == int.class
                && Arrays.stream(method.getParameterTypes()).allMatch(type -> type == int.class);
            found.add(plain ? method.getName() + " " + method.getParameterCount() : "other: " + method);
        }
        checks.same("methods", found, new TreeSet<>(METHODS));
        for (String method : METHODS) {
            checks.due("private " + method, hidden.contains(method.split(" ")[0]) ? 1 : 0, 0);
        }
        checks.due("constructors", NestingPlanner.class.getDeclaredConstructors().length, 1);
        checks.due("public constructors", NestingPlanner.class.getConstructors().length, 1);
        int modifiers = NestingPlanner.class.getModifiers();
        checks.due("public final", modifiers, Modifier.PUBLIC | Modifier.FINAL);
    }

    private static void constantsAreThoseOfTheDocument() {
        TreeSet<String> found = new TreeSet<>();
        for (Field field : NestingPlanner.class.getDeclaredFields()) {
            if (!Modifier.isPrivate(field.getModifiers())) {
                found.add(field.getName());
            }
        }
        checks.same("constants", found, new TreeSet<>(CONSTANTS));
        checks.due("INVALID_ARGUMENT", NestingPlanner.INVALID_ARGUMENT, -1000001);
        checks.due("ILLEGAL_STATE", NestingPlanner.ILLEGAL_STATE, -1000002);
        checks.due("CAPACITY_EXCEEDED", NestingPlanner.CAPACITY_EXCEEDED, -1000003);
        checks.due("NONE", NestingPlanner.NONE, -1000009);
    }

    private static void newObjectIsEmpty() {
        NestingPlanner planner = new NestingPlanner();
        for (int slot = 0; slot < 4; slot++) {
            checks.due("new: pieceCount", planner.pieceCount(slot), 0);
        }
        checks.due("new: itemCount", planner.itemCount(), 0);
        checks.due("new: undo", planner.undo(), Checks.ILLEGAL);
        checks.due("new: clearText", planner.clearText(), 0);
        checks.due("new: setClearance", planner.setClearance(0), 0);
    }

    private static void newObjectHasContainerOf20By20() {
        NestingPlanner planner = Checks.with("0,01,01,10,1;");
        checks.due("new: freePlaces", planner.freePlaces(0), 400);
        checks.due("new: place(19,20)", planner.place(0, 19, 20), Checks.ILLEGAL);
        checks.due("new: place(20,19)", planner.place(0, 20, 19), Checks.ILLEGAL);
        checks.due("new: place(19,19)", planner.place(0, 19, 19), 0);
    }

    private static void objectsShareNothing() {
        NestingPlanner first = Checks.with("0,02,02,20,2;");
        NestingPlanner second = new NestingPlanner();
        first.place(0, 3, 3);
        first.setClearance(2);
        first.appendCharacter('x');
        checks.due("second: pieceCount", second.pieceCount(0), 0);
        checks.due("second: itemCount", second.itemCount(), 0);
        checks.due("second: setClearance", second.setClearance(0), 0);
        checks.due("second: clearText", second.clearText(), 0);
        checks.due("first: clearText", first.clearText(), 1);
    }
}
