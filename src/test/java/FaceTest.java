import java.lang.reflect.Constructor;
import java.lang.reflect.Field;
import java.lang.reflect.Method;
import java.lang.reflect.Modifier;
import java.util.Arrays;
import java.util.TreeSet;

/** The face that the document shows, and that nothing else is seen from outside. */
public final class FaceTest {
    private static final String[] FACE = {
        "feed(long)", "end(int)", "text()", "fault()",
        "order(int)", "shield(int,boolean)", "at(int,int)", "change(int,int,int)", "slow(int,int,int)",
        "send(int)", "empty()", "sent(int)", "row(int)", "best(int)", "shields(int,int)", "turned(int,int)",
        "book(int)", "word(int,int)", "place(int,int)", "slowest(int)", "greatest(int,int)",
        "ways(int,int)", "kept(int,int,int)", "bits(int)", "encode(int,int,int,int)", "decode(int,int,int,int)",
        "sheet(int,int,int)", "lay(int,int,int)", "read(int,int,int,int)", "torn()", "count(int)",
    };

    public static void main(String[] args) {
        constants();
        methods();
        hidden();
        Due.finish();
    }

    private static void constants() {
        Due.due("BAD", NeighbourWires.BAD, -1);
        Due.due("STATE", NeighbourWires.STATE, -2);
        Due.due("FULL", NeighbourWires.FULL, -3);
        Due.due("NONE", NeighbourWires.NONE, -4);
    }

    private static void methods() {
        TreeSet<String> found = new TreeSet<>();
        for (Method m : NeighbourWires.class.getDeclaredMethods()) {
            if (!Modifier.isPrivate(m.getModifiers())) {
                String types = Arrays.toString(m.getParameterTypes()).replaceAll("[\\[\\] ]", "");
                found.add(m.getName() + "(" + types + ")");
                Due.dueTrue(m + " answers an int", m.getReturnType() == int.class);
            }
        }
        TreeSet<String> due = new TreeSet<>(Arrays.asList(FACE));
        Due.dueTrue("the methods " + found + " are " + due, found.equals(due));
        Constructor<?>[] constructors = NeighbourWires.class.getDeclaredConstructors();
        Due.due("constructors", constructors.length, 1);
        Due.dueTrue("a public one", Modifier.isPublic(constructors[0].getModifiers()));
        Due.due("its parameters", constructors[0].getParameterCount(), 0);
        Due.dueTrue("a final class", Modifier.isFinal(NeighbourWires.class.getModifiers()));
    }

    private static void hidden() {
        int open = 0;
        for (Field f : NeighbourWires.class.getDeclaredFields()) {
            open += Modifier.isPrivate(f.getModifiers()) ? 0 : 1;
        }
        Due.due("fields that are not private", open, 4);
        int classes = 1;
        for (Class<?> c : NeighbourWires.class.getDeclaredClasses()) {
            classes++;
            Due.dueTrue(c + " is static", Modifier.isStatic(c.getModifiers()));
            Due.dueTrue(c + " is not public", !Modifier.isPublic(c.getModifiers()));
            fields(c);
            for (Method m : c.getDeclaredMethods()) {
                Due.dueTrue(m + " has a name of its own", !isOfTheFace(m.getName()));
                Due.dueTrue(m + " takes seven at most", m.getParameterCount() <= 7);
            }
        }
        Due.dueTrue("twelve classes at most", classes <= 12);
        for (Method m : NeighbourWires.class.getDeclaredMethods()) {
            boolean isPublic = Modifier.isPublic(m.getModifiers());
            Due.dueTrue(m + " has a name of its own", isPublic || !isOfTheFace(m.getName()));
        }
    }

    private static void fields(Class<?> c) {
        int fields = 0;
        for (Field f : c.getDeclaredFields()) {
            boolean isStatic = Modifier.isStatic(f.getModifiers());
            fields += isStatic ? 0 : 1;
            Due.dueTrue(f + " is final if static", !isStatic || Modifier.isFinal(f.getModifiers()));
        }
        Due.dueTrue(c + " has twenty fields at most", fields <= 20);
    }

    private static boolean isOfTheFace(String name) {
        for (String call : FACE) {
            if (call.startsWith(name + "(")) {
                return true;
            }
        }
        return false;
    }
}
