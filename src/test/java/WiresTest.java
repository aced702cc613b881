/** Promises 6 to 10: the order, the shields, one change. */
public final class WiresTest {
    public static void main(String[] args) {
        promise6();
        promise7();
        promise8();
        promise9();
        promise9Shielded();
        promise9Ordered();
        promise10();
        Due.finish();
    }

    private static void promise6() {
        NeighbourWires x = new NeighbourWires();
        Due.due("order(3210)", x.order(3210), 1);
        int[] bad = {1234, 1123, 32, 32100, 13210, 0, -3210, -123, Integer.MIN_VALUE, Integer.MAX_VALUE, 4210};
        for (int figures : bad) {
            Due.due("order(" + figures + ")", x.order(figures), -1);
        }
        for (int place = 0; place < 4; place++) {
            Due.due("order refused changes nothing", x.at(place, 0), 3 - place);
        }
        Due.due("order(231)", x.order(231), 1);
        int[] order = {0, 2, 3, 1};
        for (int place = 0; place < 4; place++) {
            Due.due("order(231) at " + place, x.at(place, 0), order[place]);
        }
        x = Due.told("wires 2;", 1);
        Due.due("order(10)", x.order(10), 1);
        Due.due("order(1)", x.order(1), 1);
        Due.due("order(0)", x.order(0), -1);
        Due.due("order(11)", x.order(11), -1);
        x = Due.told("wires 8;", 1);
        Due.due("order(76543210)", x.order(76543210), 1);
        Due.due("order(7654321)", x.order(7654321), 1);
        Due.due("order(765432)", x.order(765432), -1);
        Due.due("order(1234567)", x.order(1234567), 1);
        Due.due("order(86543210)", x.order(86543210), -1);
        Due.due("order(176543210)", x.order(176543210), -1);
    }

    private static void promise7() {
        NeighbourWires x = new NeighbourWires();
        Due.due("shield(0, true)", x.shield(0, true), 0);
        Due.due("shield(0, true) again", x.shield(0, true), 1);
        Due.due("shield(2, false)", x.shield(2, false), 0);
        Due.due("count(3)", x.count(3), 1);
        Due.due("shield(3, true)", x.shield(3, true), -1);
        Due.due("shield(-1, true)", x.shield(-1, true), -1);
        Due.due("shield(32, true)", x.shield(32, true), -1);
        Due.due("count(3)", x.count(3), 1);
        Due.due("shield(0, false)", x.shield(0, false), 1);
        Due.due("shield(0, false) again", x.shield(0, false), 0);
        Due.due("count(3)", x.count(3), 0);
    }

    private static void promise8() {
        NeighbourWires x = Due.told("wires 3; shield 1;", 2);
        x.order(201);
        int[] wires = {2, 0, 1};
        int[] shields = {0, 1, 0};
        for (int place = 0; place < 3; place++) {
            Due.due("at(" + place + ", 0)", x.at(place, 0), wires[place]);
            Due.due("at(" + place + ", 1)", x.at(place, 1), shields[place]);
        }
        Due.due("at(3, 0)", x.at(3, 0), -1);
        Due.due("at(-1, 0)", x.at(-1, 0), -1);
        Due.due("at(0, 2)", x.at(0, 2), -1);
        Due.due("at(0, -1)", x.at(0, -1), -1);
    }

    private static void change(NeighbourWires x, int from, int to, int... due) {
        for (int what = 0; what < due.length; what++) {
            String call = "change(" + from + ", " + to + ", " + what + ")";
            Due.due(call, x.change(from, to, what), due[what]);
        }
    }

    private static void promise9() {
        NeighbourWires x = Due.told("own 10; side 1;", 2);
        change(x, 0, 0, 0, 0, 0, 0);
        change(x, 9, 9, 0, 0, 0, 0);
        change(x, 0, 15, 40, 0, 0, 4);
        change(x, 15, 0, 40, 0, 0, 4);
        change(x, 0, 1, 11, 1, 1, 1);
        change(x, 0, 2, 12, 2, 1, 1);
        change(x, 1, 2, 25, 3, 1, 2);
        change(x, 2, 5, 39, 4, 1, 3);
        change(x, 1, 4, 23, 2, 1, 2);
        change(x, 0, 9, 22, 1, 1, 2);
        change(x, 5, 0, 23, 2, 2, 2);
        change(x, 0, 16, -1, -1, -1, -1);
        change(x, 16, 0, -1, -1, -1, -1);
        change(x, -1, 0, -1, -1, -1, -1);
        change(x, 0, -1, -1, -1, -1, -1);
        Due.due("change(0, 1, 4)", x.change(0, 1, 4), -1);
        Due.due("change(0, 1, -1)", x.change(0, 1, -1), -1);
        x = Due.told("wires 2; own 0; side 7;", 3);
        change(x, 1, 2, 28, 2, 0, 2);
        change(x, 0, 3, 0, 0, 0, 2);
        change(x, 0, 4, -1);
        x = Due.told("wires 8; own 99; side 99;", 3);
        change(x, 85, 170, 99 * (8 + 28), 4, 0, 8);
        change(x, 255, 255, 0, 0, 0, 0);
        Due.due("a change is not sent", x.count(4), 0);
    }

    private static void promise9Shielded() {
        NeighbourWires x = Due.told("own 10; side 1; shield 1;", 3);
        change(x, 0, 15, 42, 1, 0, 4);
        change(x, 0, 2, 12, 2, 1, 1);
        change(x, 0, 6, 24, 2, 1, 2);
        change(x, 2, 4, 24, 2, 1, 2);
        change(x, 0, 10, 23, 2, 1, 2);
        x.shield(0, true);
        change(x, 0, 2, 12, 2, 0, 1);
        change(x, 0, 5, 23, 2, 1, 2);
        x.shield(2, true);
        change(x, 10, 5, 46, 2, 0, 4);
        change(x, 0, 1, 11, 1, 0, 1);
    }

    private static void promise9Ordered() {
        NeighbourWires x = Due.told("own 10; side 1;", 2);
        x.order(2013);
        change(x, 0, 3, 22, 1, 1, 2);
        change(x, 4, 1, 25, 3, 1, 2);
        x.shield(0, true);
        change(x, 4, 1, 23, 2, 1, 2);
        x.shield(0, false);
        change(x, 0, 12, 22, 1, 1, 2);
        change(x, 0, 6, 23, 2, 2, 2);
    }

    private static void promise10() {
        NeighbourWires x = new NeighbourWires();
        int[] slows = {2, 4, 3, 0};
        for (int wire = 0; wire < 4; wire++) {
            Due.due("slow(2, 5, " + wire + ")", x.slow(2, 5, wire), slows[wire]);
        }
        x.order(2301);
        int[] ordered = {3, 2, 1, 0};
        for (int wire = 0; wire < 4; wire++) {
            Due.due("ordered: slow(2, 5, " + wire + ")", x.slow(2, 5, wire), ordered[wire]);
        }
        x.shield(2, true);
        Due.due("shielded: slow(2, 5, 0)", x.slow(2, 5, 0), 2);
        Due.due("shielded: slow(2, 5, 1)", x.slow(2, 5, 1), 1);
        Due.due("shielded: slow(2, 5, 3)", x.slow(2, 5, 3), 0);
        Due.due("shielded: slow(2, 5, 2)", x.slow(2, 5, 2), 1);
        Due.due("slow(2, 5, 4)", x.slow(2, 5, 4), -1);
        Due.due("slow(2, 5, -1)", x.slow(2, 5, -1), -1);
        Due.due("slow(16, 5, 0)", x.slow(16, 5, 0), -1);
        Due.due("slow(5, 16, 0)", x.slow(5, 16, 0), -1);
        Due.due("slow(-1, 5, 0)", x.slow(-1, 5, 0), -1);
        Due.due("slow(7, 7, 0)", x.slow(7, 7, 0), 0);
    }
}
