/** Promises 28 to 32: sheets, their faults, and the counts. */
public final class SheetsTest {
    private static final int NULL = 1, INDEX = 2, CAST = 3;

    public static void main(String[] args) {
        promise28();
        promise29();
        promise30Came();
        promise30Refused();
        promise30FirstMet();
        promise31();
        promise32();
        Due.finish();
    }

    private static void read(NeighbourWires x, int k, int lane, int f, int m, int answer, int torn) {
        String call = "read(" + k + ", " + lane + ", " + f + ", " + m + ")";
        Due.due(call, x.read(k, lane, f, m), answer);
        Due.due("torn() of " + call, x.torn(), torn);
    }

    private static void promise28() {
        NeighbourWires x = new NeighbourWires();
        int[][] bad = {{-1, 0, 1}, {4, 0, 1}, {0, -1, 1}, {0, 3, 1}, {0, 0, 41}, {4, 0, -1}, {0, 3, -1},
            {0, 0, Integer.MAX_VALUE}};
        for (int[] a : bad) {
            Due.due("sheet(" + a[0] + ", " + a[1] + ", " + a[2] + ")", x.sheet(a[0], a[1], a[2]), -1);
        }
        Due.due("sheet(0, 0, -1)", x.sheet(0, 0, -1), -14);
        Due.due("sheet(0, 2, MIN)", x.sheet(0, 2, Integer.MIN_VALUE), -14);
        Due.due("still nothing", x.count(6), -4);
        Due.due("sheet(0, 0, 40)", x.sheet(0, 0, 40), 1);
        Due.due("40 cells", x.count(6), 40);
        for (int i = 0; i < 40; i++) {
            x.lay(0, i, 7);
        }
        Due.due("a new one", x.sheet(0, 0, 4), 1);
        Due.due("4 cells", x.count(6), 4);
        read(x, 0, 0, 0, 4, 4, 0);
        for (int i = 0; i < 4; i++) {
            Due.due("its cells are 0", x.sent(i), 0);
        }
        x.lay(0, 3, 7);
        Due.due("sheet(0, 0, -1)", x.sheet(0, 0, -1), -14);
        Due.due("sheet(0, 0, 41)", x.sheet(0, 0, 41), -1);
        Due.due("what is refused stays", x.count(6), 4);
        read(x, 0, 0, 3, 1, 1, 0);
        Due.due("what is refused stays", x.sent(4), 7);
        Due.due("sheet(0, 1, 0)", x.sheet(0, 1, 0), 1);
        Due.due("no cells are not nothing", x.count(6), 0);
        Due.due("lay in no cells", x.lay(0, 0, 1), -12);
        x.empty();
        Due.due("a new one of 40", x.sheet(0, 2, 40), 1);
        read(x, 0, 2, 0, 40, 40, 0);
        for (int i = 0; i < 40; i++) {
            Due.due("all its cells are 0", x.sent(i), 0);
        }
    }

    private static void promise29() {
        NeighbourWires x = Due.told("wires 8;", 1);
        for (int lane = 0; lane <= 2; lane++) {
            Due.due("sheet", x.sheet(lane, lane, 3), 1);
            Due.due("lay", x.lay(lane, 2, 0x12340007 + lane), 1);
        }
        read(x, 0, 0, 2, 1, 1, 0);
        Due.due("the lowest 8 bits", x.sent(0), 7);
        x.lay(1, 2, 0x12340007);
        read(x, 1, 1, 2, 1, 1, 0);
        Due.due("the lowest 16 bits", x.sent(1), 7);
        read(x, 2, 2, 2, 1, -20, 0);
        x.lay(0, 1, 255);
        read(x, 0, 0, 1, 1, -20, 0);
        x.lay(0, 1, 127);
        read(x, 0, 0, 1, 1, 1, 0);
        x.lay(1, 1, 0xFFFF);
        read(x, 1, 1, 1, 1, -20, 0);
        x.lay(1, 1, 0x100FF);
        read(x, 1, 1, 1, 1, 1, 0);
        Due.due("a short of 255", x.sent(3), 255);
        x.lay(2, 1, 255);
        read(x, 2, 2, 1, 1, 1, 0);
        Due.due("lay(4, 0, 0)", x.lay(4, 0, 0), -1);
        Due.due("lay(-1, 0, 0)", x.lay(-1, 0, 0), -1);
        Due.due("lay(3, 0, 0)", x.lay(3, 0, 0), -11);
        Due.due("lay(3, -1, 0)", x.lay(3, -1, 0), -11);
        int[] outside = {3, -1, 40, Integer.MIN_VALUE, Integer.MAX_VALUE};
        for (int i : outside) {
            Due.due("lay(0, " + i + ", 0)", x.lay(0, i, 0), -12);
        }
    }

    private static NeighbourWires filled() {
        NeighbourWires x = new NeighbourWires();
        x.sheet(1, 1, 5);
        for (int i = 0; i < 5; i++) {
            x.lay(1, i, 10 + i);
        }
        x.send(3);
        return x;
    }

    private static void promise30Came() {
        NeighbourWires x = filled();
        read(x, 1, 1, 1, 3, 3, 0);
        int[] row = {3, 11, 12, 13};
        for (int i = 0; i < row.length; i++) {
            Due.due("sent(" + i + ")", x.sent(i), row[i]);
        }
        read(x, 1, 1, 3, 40, 2, INDEX);
        Due.due("those ahead came", x.sent(5), 14);
        Due.due("count(4)", x.count(4), 6);
        read(x, 1, 1, 5, 1, 0, INDEX);
        read(x, 1, 1, -1, 3, 0, INDEX);
        read(x, 1, 1, Integer.MAX_VALUE, 40, 0, INDEX);
        read(x, 1, 1, Integer.MIN_VALUE, 40, 0, INDEX);
        read(x, 1, 0, 0, 1, 0, CAST);
        read(x, 1, 2, -1, 1, 0, CAST);
        read(x, 0, 1, -1, 1, 0, NULL);
        read(x, 2, 0, 0, 40, 0, NULL);
        read(x, 1, 0, 0, 0, 0, 0);
        Due.due("none of these came", x.count(4), 6);
        read(x, 0, 2, -5, 0, 0, 0);
        read(x, 1, 1, 0, 5, 5, 0);
        Due.due("a sheet stays as it is", x.sent(10), 14);
    }

    private static void promise30Refused() {
        NeighbourWires x = filled();
        int[][] bad = {{-1, 1, 0, 1}, {4, 1, 0, 1}, {1, -1, 0, 1}, {1, 3, 0, 1}, {1, 1, 0, -1}, {1, 1, 0, 41},
            {0, 3, 0, 0}, {4, 0, 0, 0}};
        read(x, 0, 0, 0, 1, 0, NULL);
        for (int[] a : bad) {
            read(x, a[0], a[1], a[2], a[3], -1, NULL);
        }
        x.lay(1, 2, 16);
        read(x, 1, 1, 0, 5, -22, NULL);
        read(x, 1, 1, 2, 1, -20, NULL);
        x.lay(1, 2, -1);
        read(x, 1, 1, 1, 40, -21, NULL);
        Due.due("none came", x.count(4), 1);
        read(x, 1, 1, 1, 1, 1, 0);
        Due.due("sent(1)", x.sent(1), 11);
    }

    private static void promise30FirstMet() {
        NeighbourWires x = filled();
        for (int i = 1; i < 37; i++) {
            x.send(0);
        }
        read(x, 1, 1, 0, 4, -3, 0);
        Due.due("none came", x.count(4), 37);
        x.lay(1, 3, 99);
        read(x, 1, 1, 0, 4, -23, 0);
        x.lay(1, 4, 99);
        x.lay(1, 3, 0);
        read(x, 1, 1, 0, 5, -3, 0);
        read(x, 1, 1, 2, 40, -22, 0);
        x.lay(1, 4, 9);
        read(x, 1, 1, 2, 40, 3, INDEX);
        Due.due("a full row", x.count(4), 40);
        read(x, 1, 1, 5, 1, 0, INDEX);
        read(x, 1, 2, 0, 1, 0, CAST);
        read(x, 1, 1, 0, 1, -3, CAST);
        read(x, 1, 1, 0, 0, 0, 0);
    }

    private static void promise31() {
        NeighbourWires x = filled();
        read(x, 0, 0, 0, 1, 0, NULL);
        x.sheet(0, 0, 1);
        x.lay(3, 0, 0);
        Due.text(x, "own 5;", 1, 0);
        Due.due("torn stays by other calls", x.torn(), NULL);
        read(x, 0, 0, 0, 1, 1, 0);
    }

    private static void promise32() {
        NeighbourWires x = Due.told("wires 7; own 8; side 9; shield 0; shield 5; send 1 2 3;", 6);
        x.feed(0L);
        x.sheet(0, 2, 11);
        int[] due = {7, 8, 9, 2, 3, 8, 11};
        for (int what = 0; what < due.length; what++) {
            Due.due("count(" + what + ")", x.count(what), due[what]);
        }
        int[] bad = {-1, 7, Integer.MIN_VALUE, Integer.MAX_VALUE};
        for (int what : bad) {
            Due.due("count(" + what + ")", x.count(what), -1);
        }
        x.sheet(1, 0, 3);
        Due.due("SHEET 0 alone is counted", x.count(6), 11);
    }
}
