/** Promises 11 to 17: the row, its best order, its shields, and words turned round. */
public final class RowTest {
    public static void main(String[] args) {
        promise11();
        promise12And13();
        promise14();
        promise15();
        promise16();
        promise17();
        promise17Ties();
        promise17ByAll();
        promise17Laid();
        Due.finish();
    }

    private static void promise11() {
        NeighbourWires x = new NeighbourWires();
        Due.due("send(16)", x.send(16), -1);
        Due.due("send(-1)", x.send(-1), -1);
        for (int i = 0; i < 40; i++) {
            Due.due("send", x.send(i % 16), i + 1);
        }
        Due.due("send to a full row", x.send(0), -3);
        Due.due("no word to a full row", x.send(16), -1);
        Due.due("count(4)", x.count(4), 40);
        Due.due("sent(39)", x.sent(39), 7);
        x = Due.told("wires 2;", 1);
        Due.due("send(3)", x.send(3), 1);
        Due.due("send(4)", x.send(4), -1);
    }

    private static void promise12And13() {
        NeighbourWires x = Due.told("own 3; shield 1; send 5 9;", 3);
        Due.due("sent(0)", x.sent(0), 5);
        Due.due("sent(1)", x.sent(1), 9);
        Due.due("sent(2)", x.sent(2), -1);
        Due.due("sent(-1)", x.sent(-1), -1);
        Due.due("sent(40)", x.sent(40), -1);
        Due.due("empty()", x.empty(), 2);
        Due.due("empty() again", x.empty(), 0);
        Due.due("sent(0)", x.sent(0), -1);
        Due.due("OWN stays", x.count(1), 3);
        Due.due("SHIELDS stay", x.count(3), 1);
        Due.due("send", x.send(1), 1);
        Due.due("sent(0)", x.sent(0), 1);
    }

    private static void rows(NeighbourWires x, int... due) {
        int[] whats = {0, 1, 2, 3, 4, 10, 11, 12, 13, 14};
        for (int i = 0; i < whats.length; i++) {
            Due.due("row(" + whats[i] + ")", x.row(whats[i]), due[i]);
        }
    }

    private static void promise14() {
        NeighbourWires x = Due.told("own 10; side 1; send 2 5 5 0;", 3);
        rows(x, 12 + 39 + 0 + 23, 4, 2, 6, 1, 1, 0, 2, 0, 1);
        x.send(2);
        x.send(5);
        rows(x, 74 + 12 + 39, 4, 2, 10, 1, 1, 0, 3, 0, 2);
        int[] bad = {-1, 5, 9, 15, Integer.MIN_VALUE, Integer.MAX_VALUE};
        for (int what : bad) {
            Due.due("row(" + what + ")", x.row(what), -1);
        }
        x.empty();
        rows(x, 0, 0, 0, 0, -4, 0, 0, 0, 0, 0);
        x.send(0);
        x.send(0);
        rows(x, 0, 0, 0, 0, 0, 2, 0, 0, 0, 0);
        x = Due.told("own 10; side 1; shield 1; send 15 0;", 4);
        rows(x, 84, 1, 0, 8, 0, 0, 2, 0, 0, 0);
    }

    private static void promise15() {
        NeighbourWires x = Due.told("wires 3; own 0; side 1; send 5;", 4);
        Due.due("best(0)", x.best(0), 1);
        Due.due("best(1)", x.best(1), 21);
        x.shield(0, true);
        x.order(210);
        Due.due("shields do not count: best(0)", x.best(0), 1);
        Due.due("best(1)", x.best(1), 21);
        Due.due("ORDER stays", x.at(0, 0), 2);
        Due.due("SHIELDS stay", x.count(3), 1);
        Due.due("best(2)", x.best(2), -1);
        Due.due("best(-1)", x.best(-1), -1);
        x = Due.told("own 7; side 2; send 9 6;", 3);
        Due.due("best(0)", x.best(0), 7 * 6 + 2 * (1 + 4));
        Due.due("best(1)", x.best(1), 312);
        x = Due.told("wires 8; own 99; side 0; step 0 255 40;", 4);
        Due.due("SIDE 0: best(1)", x.best(1), 1234567);
        x = Due.told("wires 8; send 85 170;", 2);
        Due.due("best(0)", x.best(0), 4 + 8 + 1 + 4);
        Due.due("best(1)", x.best(1), 2461357);
        x.empty();
        Due.due("an empty row: best(0)", x.best(0), 0);
        Due.due("an empty row: best(1)", x.best(1), 1234567);
    }

    private static void shieldsDue(NeighbourWires x, int k, int many, int bits) {
        Due.due("shields(" + k + ", 0)", x.shields(k, 0), many);
        Due.due("shields(" + k + ", 1)", x.shields(k, 1), bits);
    }

    private static void promise16() {
        NeighbourWires x = Due.told("wires 3; send 2 5;", 2);
        shieldsDue(x, 4, 0, 0);
        shieldsDue(x, 3, 1, 1);
        shieldsDue(x, 2, 2, 3);
        shieldsDue(x, 1, -4, -4);
        x.shield(0, true);
        shieldsDue(x, 4, 0, 0);
        shieldsDue(x, 3, 1, 1);
        Due.due("SHIELDS stay", x.count(3), 1);
        x.order(102);
        shieldsDue(x, 2, 0, 0);
        shieldsDue(x, 1, 1, 1);
        shieldsDue(x, 0, -4, -4);
        x = Due.told("send 10 5;", 1);
        shieldsDue(x, 3, 1, 2);
        shieldsDue(x, 2, 3, 7);
        x = Due.told("send 15 0;", 1);
        shieldsDue(x, 0, 0, 0);
        x = Due.told("wires 8; send 0;", 2);
        shieldsDue(x, 0, 0, 0);
        x = Due.told("wires 8; send 85 170;", 2);
        shieldsDue(x, 3, 3, 2 + 8 + 32);
        shieldsDue(x, 2, 7, 127);
        x.empty();
        shieldsDue(x, 0, 0, 0);
        int[] bad = {-1, 5, Integer.MAX_VALUE};
        for (int k : bad) {
            shieldsDue(x, k, -1, -1);
        }
        Due.due("shields(0, 2)", x.shields(0, 2), -1);
        Due.due("shields(0, -1)", x.shields(0, -1), -1);
    }

    private static void turnedDue(NeighbourWires x, int way, int... due) {
        for (int what = 0; what < due.length; what++) {
            String call = "turned(" + way + ", " + what + ")";
            Due.due(call, x.turned(way, what), due[what]);
        }
    }

    private static void promise17() {
        NeighbourWires x = Due.told("own 10; side 1; send 0 15;", 3);
        turnedDue(x, 0, 41, 0, -4, 1);
        for (int way = 1; way <= 3; way++) {
            turnedDue(x, way, 11, 1, 1, 1);
        }
        x = Due.told("own 10; side 1; send 3 15;", 3);
        turnedDue(x, 0, 21 + 22, 0, -4, 1);
        turnedDue(x, 1, 21 + 22, 0, -4, 1);
        x = Due.told("wires 3; own 10; send 3;", 3);
        turnedDue(x, 1, 20 + 1, 1, 0, 1);
        x = Due.told("", 0);
        for (int way = 0; way <= 3; way++) {
            turnedDue(x, way, 0, 0, -4, 0);
        }
        turnedDue(x, 4, -1, -1, -1, -1);
        turnedDue(x, -1, -1, -1, -1, -1);
        Due.due("turned(0, 4)", x.turned(0, 4), -1);
        Due.due("turned(0, -1)", x.turned(0, -1), -1);
        x.send(15);
        x.turned(3, 0);
        Due.due("THE ROW stays", x.sent(0), 15);
        Due.due("WIRES stay", x.count(0), 4);
    }

    private static void promise17Ties() {
        NeighbourWires x = Due.told("wires 3; own 1; side 0; send 3;", 4);
        turnedDue(x, 2, 2, 0, -4, 1);
        turnedDue(x, 3, 2, 0, -4, 1);
        x = Due.told("wires 3; own 1; side 0; send 3 4;", 4);
        turnedDue(x, 0, 5, 0, -4, 3);
        turnedDue(x, 2, 3, 1, 1, 1);
        turnedDue(x, 3, 3, 1, 1, 1);
        x = Due.told("own 0; side 0; send 15 0 15;", 3);
        turnedDue(x, 1, 0, 2, 0, 1);
        turnedDue(x, 2, 0, 0, -4, 1);
        turnedDue(x, 3, 0, 0, -4, 1);
    }

    /** By cost, and so that all cost the least: a tie leaves the word as it is, each time. */
    private static void promise17ByAll() {
        for (int way = 2; way <= 3; way++) {
            NeighbourWires x = Due.told("own 1; side 0; send 3 8 12;", 3);
            turnedDue(x, way, 2 + 2 + 1, 2, 1, 2);
            x = Due.told("own 1; side 0; send 3 13 12;", 3);
            turnedDue(x, way, 2 + 2 + 1, 2, 1);
            x = Due.told("wires 3; own 1; side 0; send 5 7;", 4);
            turnedDue(x, way, 3, 0, -4);
            x = Due.told("wires 8; own 1; side 0; send 15 255;", 4);
            turnedDue(x, way, 4 + 4, 0, -4);
            x = Due.told("wires 8; own 1; side 0; send 15 254 255;", 4);
            turnedDue(x, way, 4 + 4 + 1, 2, 1);
            x = Due.told("wires 3; own 1; side 3; send 2 7 6;", 4);
            turnedDue(x, way, 7 + 11 + 4, 0, -4, 2);
            x = Due.told("wires 3; own 1; side 0; send 7 4 7;", 4);
            turnedDue(x, way, 1 + 2 + 2, 1, 0);
        }
    }

    private static void promise17Laid() {
        NeighbourWires x = Due.told("own 0; side 1; send 8;", 3);
        turnedDue(x, 0, 2, 0, -4, 2);
        x.order(3012);
        turnedDue(x, 0, 1, 0, -4, 1);
        x.shield(2, true);
        turnedDue(x, 0, 1, 0, -4, 1);
        x.order(123);
        turnedDue(x, 0, 2, 0, -4, 2);
        x.empty();
        x.send(15);
        turnedDue(x, 0, 3, 0, -4, 2);
        turnedDue(x, 1, 1, 1, 0, 1);
    }
}
