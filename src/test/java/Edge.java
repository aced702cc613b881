import java.lang.reflect.Method;
import java.util.ArrayList;
import java.util.Arrays;
import java.util.Comparator;
import java.util.List;
import java.util.function.Supplier;
import java.util.function.ToIntFunction;

/**
 * Tests just at a boundary and one step beside it. What a call changes is seen by two objects
 * that were made alike, of which one is called once more.
 */
final class Edge {
    static final int MIN = Integer.MIN_VALUE, MAX = Integer.MAX_VALUE;
    static final int BAD = -1, STATE = -2, FULL = -3, NONE = -4;
    private static final String TAPE = "tape: ";

    /** A call with one of its numbers left open. */
    interface Numbered {
        int on(NeighbourWires x, int v);
    }

    private Edge() {
    }

    /** Runs each method whose name begins with promise and a number; each promise must have one. */
    static void run(Class<?> tests, int first, int last) throws ReflectiveOperationException {
        Method[] methods = tests.getDeclaredMethods();
        Arrays.sort(methods, Comparator.comparing(Method::getName));
        boolean[] found = new boolean[100];
        for (Method m : methods) {
            if (m.getName().matches("promise[0-9][0-9][A-Z].*")) {
                found[Integer.parseInt(m.getName().substring(7, 9))] = true;
                int wrong = Due.wrong();
                m.setAccessible(true);
                m.invoke(null);
                if (Due.wrong() > wrong) {
                    System.out.println("^ in " + tests.getName() + "." + m.getName());
                }
            }
        }
        for (int promise = first; promise <= last; promise++) {
            Due.dueTrue("promise " + promise + " has a test", found[promise]);
        }
        Due.finish();
    }

    /** The call answers what is due, and all else is then as if it had not been. */
    static void keeps(String call, Supplier<NeighbourWires> made, ToIntFunction<NeighbourWires> on, int due) {
        changesOnly(call, made, on, due);
    }

    /** The call answers what is due, and no answer changes but those that begin so. */
    static void changesOnly(String call, Supplier<NeighbourWires> made, ToIntFunction<NeighbourWires> on, int due,
            String... changing) {
        NeighbourWires x = made.get();
        Due.due(call, on.applyAsInt(x), due);
        List<String> behind = all(x);
        List<String> ahead = all(made.get());
        behind.removeIf(answer -> isOne(answer, changing));
        ahead.removeIf(answer -> isOne(answer, changing));
        boolean same = ahead.equals(behind);
        Due.dueTrue(call + " changes no other answer" + (same ? "" : differences(ahead, behind)), same);
    }

    private static boolean isOne(String answer, String... changing) {
        for (String name : changing) {
            if (answer.startsWith(name) || answer.startsWith(TAPE + name)) {
                return true;
            }
        }
        return false;
    }

    private static String differences(List<String> ahead, List<String> behind) {
        List<String> lost = new ArrayList<>(ahead);
        lost.removeAll(behind);
        List<String> came = new ArrayList<>(behind);
        came.removeAll(ahead);
        return ": from " + lost + " to " + came;
    }

    /** One step outside of both bounds, and far outside, is refused and changes nothing. */
    static void outside(String call, Supplier<NeighbourWires> made, int lowest, int highest, int due, Numbered on) {
        int[] outside = {lowest - 1, highest + 1, MIN, MAX};
        for (int v : outside) {
            keeps(call + " of " + v, made, x -> on.on(x, v), due);
        }
    }

    /** From the lowest number on, the answers that are due; one step outside, BAD. */
    static void answers(String call, Supplier<NeighbourWires> made, int lowest, Numbered on, int... due) {
        for (int i = 0; i < due.length; i++) {
            int v = lowest + i;
            keeps(call + " of " + v, made, x -> on.on(x, v), due[i]);
        }
        outside(call, made, lowest, lowest + due.length - 1, BAD, on);
    }

    /** Nothing of it is as at first; WORDS of SHEET 0 may be read, SHEET 3 is nothing. */
    static NeighbourWires furnished() {
        NeighbourWires x = Due.told("wires 5; own 7; side 9; shield 1; shield 3; send 3 31 0 21;", 6);
        Due.due("order(31420)", x.order(31420), 1);
        x.sheet(0, 1, 3);
        x.lay(0, 0, 7);
        x.lay(0, 1, 8);
        x.lay(0, 2, 31);
        x.sheet(1, 0, 40);
        x.lay(1, 39, 29);
        x.sheet(2, 2, 1);
        x.lay(2, 0, 30);
        Due.due("read(0, 1, 3, 1)", x.read(0, 1, 3, 1), 0);
        Due.text(x, "own 100;", -14, 3);
        Due.feed(x, "side 5; send 1 ");
        return x;
    }

    /** A new object that was told so many wires. */
    static NeighbourWires wired(int n) {
        return Due.told("wires " + n + ";", 1);
    }

    /** Signs, so many times. */
    static String times(int count, String signs) {
        return signs.repeat(count);
    }

    /**
     * All that can be asked of an object, then what its tape tells, then what lies in its
     * sheets, read as WORDS of eight wires: the object is spent then. Some 350 calls.
     */
    static List<String> all(NeighbourWires x) {
        List<String> all = new ArrayList<>();
        plan(x, "", all);
        all.add("fault() " + x.fault());
        all.add("torn() " + x.torn());
        all.add(TAPE + "text() " + x.text());
        all.add(TAPE + "fault() " + x.fault());
        plan(x, TAPE, all);
        x.feed(Due.eight("wires 8;", 0));
        x.text();
        for (int k = 0; k < 4; k++) {
            for (int lane = 0; lane <= 2; lane++) {
                x.empty();
                int came = x.read(k, lane, 0, 40);
                all.add("sheet " + k + " of lane " + lane + ": " + came + ", torn " + x.torn());
                words(x, "sheet " + k + ": ", came, all);
            }
        }
        return all;
    }

    private static void plan(NeighbourWires x, String ahead, List<String> all) {
        for (int what = 0; what <= 6; what++) {
            all.add(ahead + "count(" + what + ") " + x.count(what));
        }
        int n = x.count(0);
        for (int place = 0; place < n; place++) {
            all.add(ahead + "at(" + place + ", 0) " + x.at(place, 0));
            all.add(ahead + "at(" + place + ", 1) " + x.at(place, 1));
        }
        words(x, ahead, x.count(4), all);
    }

    private static void words(NeighbourWires x, String ahead, int length, List<String> all) {
        for (int i = 0; i < length; i++) {
            all.add(ahead + "sent(" + i + ") " + x.sent(i));
        }
    }
}
