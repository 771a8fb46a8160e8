import java.lang.management.ManagementFactory;
import java.lang.reflect.Constructor;
import java.lang.reflect.Field;
import java.lang.reflect.Method;
import java.lang.reflect.Modifier;
import java.nio.file.Files;
import java.nio.file.Path;
import java.util.Set;
import java.util.TreeSet;

/** The face as the document tells it, no exceptions for any numbers, and no objects made by calls. */
public final class FaceTest {
    private static final String[] FACE = {"write 1", "wipe 0", "fault 0", "lay 0", "town 2", "crew 2", "believes 2", "asks 2",
        "pass 1", "way 2", "hire 3", "land 2", "raise 2", "undo 0", "behind 3", "fire 1", "best 3", "rests 3", "walled 2",
        "together 2", "found 3", "forget 0", "hoard 2", "whose 3", "springs 3", "keep 0", "back 0", "count 1"};
    private static final int[] EDGES = {Integer.MIN_VALUE, -2, -1, 0, 1, 2, 3, 4, 5, 6, 7, 10, 20, 21, 30, 31, 126, 127,
        999, 1000, 9999, 10000, Integer.MAX_VALUE};
    private static final Check CHECK = new Check("FaceTest");

    private static void face() {
        Set<String> want = new TreeSet<>(Set.of(FACE));
        Set<String> got = new TreeSet<>();
        for (Method method : PaidToGoAway.class.getDeclaredMethods()) {
            if (!Modifier.isPrivate(method.getModifiers())) {
                got.add(method.getName() + " " + method.getParameterCount());
                CHECK.due("public " + method, method.getModifiers(), Modifier.PUBLIC);
                CHECK.due("int of " + method, method.getReturnType() == int.class ? 1 : 0, 1);
            } else {
                CHECK.due("a private name of its own: " + method, isOfFace(method.getName()) ? 1 : 0, 0);
            }
        }
        CHECK.same("methods", got.toString(), want.toString());
        Set<String> constants = new TreeSet<>();
        for (Field field : PaidToGoAway.class.getDeclaredFields()) {
            if (!Modifier.isPrivate(field.getModifiers())) {
                constants.add(field.getName());
                CHECK.due("public " + field, field.getModifiers(), Modifier.PUBLIC | Modifier.STATIC | Modifier.FINAL);
            }
        }
        CHECK.same("constants", constants.toString(), new TreeSet<>(Set.of("BAD", "NO", "FULL", "NONE")).toString());
        Constructor<?>[] constructors = PaidToGoAway.class.getDeclaredConstructors();
        CHECK.due("one constructor", constructors.length, 1);
        CHECK.due("public", constructors[0].getModifiers(), Modifier.PUBLIC);
        CHECK.due("public and final", PaidToGoAway.class.getModifiers(), Modifier.PUBLIC | Modifier.FINAL);
        for (Class<?> inside : PaidToGoAway.class.getDeclaredClasses()) {
            int modifiers = inside.getModifiers();
            CHECK.due("inside: " + inside, Modifier.isStatic(modifiers) && !Modifier.isPublic(modifiers) ? 1 : 0, 1);
            for (Method method : inside.getDeclaredMethods()) {
                CHECK.due("a name of its own: " + method, isOfFace(method.getName()) ? 1 : 0, 0);
            }
        }
        CHECK.due("BAD", PaidToGoAway.BAD, -1);
        CHECK.due("NO", PaidToGoAway.NO, -2);
        CHECK.due("FULL", PaidToGoAway.FULL, -3);
        CHECK.due("NONE", PaidToGoAway.NONE, -4);
    }

    private static boolean isOfFace(String name) {
        for (String method : FACE) {
            if (method.startsWith(name + " ")) {
                return true;
            }
        }
        return false;
    }

    /** Every call with every three of the edges: any exception ends the test. */
    private static void anyNumbers() throws ReflectiveOperationException {
        for (Method method : PaidToGoAway.class.getDeclaredMethods()) {
            if (Modifier.isPrivate(method.getModifiers())) {
                continue;
            }
            int places = method.getParameterCount();
            PaidToGoAway x = new PaidToGoAway();
            int calls = 0;
            for (int row = 0; row < Math.pow(EDGES.length, places); row++) {
                Object[] numbers = new Object[places];
                int rest = row;
                for (int i = 0; i < places; i++) {
                    numbers[i] = EDGES[rest % EDGES.length];
                    rest /= EDGES.length;
                }
                x = calls++ % 400 == 399 ? new PaidToGoAway() : x;
                int answer = (int) method.invoke(x, numbers);
                CHECK.due(method.getName() + " is no less than NONE", answer >= Check.NONE ? 1 : 0, 1);
            }
        }
    }

    /** All calls live in one room, so none of them may make an object. */
    private static void noObjects() {
        var threads = (com.sun.management.ThreadMXBean) ManagementFactory.getThreadMXBean();
        PaidToGoAway x = new PaidToGoAway();
        dear(x);
        long before = threads.getCurrentThreadAllocatedBytes();
        long nothing = threads.getCurrentThreadAllocatedBytes() - before;
        before = threads.getCurrentThreadAllocatedBytes();
        dear(x);
        CHECK.due("bytes made", threads.getCurrentThreadAllocatedBytes() - before - nothing, 0);
    }

    private static void dear(PaidToGoAway x) {
        String text = "t0,60,8,2;c9,9;";
        for (int i = 0; i < text.length(); i++) {
            x.write(text.charAt(i));
        }
        x.fault();
        x.found(0, 1, 5);
        x.hoard(0, 0);
        x.best(0, 4, 0);
        x.rests(0, 1, 0);
        x.walled(0, 20);
        x.behind(30, 0, 0);
        x.springs(1, 30, 0);
        x.whose(0, 20, 1);
        x.fire(0);
        x.together(0, 0);
        x.keep();
        x.pass(1);
        x.way(0, 1);
        x.hire(0, 0, 1);
        x.land(0, 0);
        x.raise(0, 1);
        x.undo();
        x.back();
        x.count(5);
        x.lay();
        x.wipe();
    }

    /** Words that LANGUAGE.md leaves out, looked for in the source. */
    private static void words() throws java.io.IOException {
        String source = Files.readString(Path.of("src/main/java/PaidToGoAway.java"));
        for (String word : new String[] {"import ", "package ", "try ", "catch", "throw", "finally", "synchronized", "assert ",
            "->", "::", "Object", "equals(", "hashCode", "toString", "Exact", "static {", "protected"}) {
            CHECK.due("no " + word, source.indexOf(word), -1);
        }
    }

    public static void main(String[] args) throws Exception {
        face();
        words();
        anyNumbers();
        noObjects();
        CHECK.end();
    }
}
