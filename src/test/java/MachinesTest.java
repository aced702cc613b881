/** Promises 23 to 27: machines of states, numbers led to words and back. */
public final class MachinesTest {
    public static void main(String[] args) {
        promise23();
        promise24();
        promise25();
        promise26();
        promise27();
        layDoesNotMatter();
        thereAndBack();
        byTheModel();
        Due.finish();
    }

    private static void promise23() {
        NeighbourWires x = Due.told("wires 2;", 1);
        int[][] ways = {{2, 1, 1, 2}, {4, 3, 3, 4}, {4, 4, 4, 4}};
        for (int k = 0; k <= 4; k++) {
            for (int word = 0; word < 4; word++) {
                int due = ways[Math.min(k, 2)][word];
                Due.due("ways(" + k + ", " + word + ")", x.ways(k, word), due);
            }
        }
        Due.due("ways(-1, 0)", x.ways(-1, 0), -1);
        Due.due("ways(5, 0)", x.ways(5, 0), -1);
        Due.due("ways(0, 4)", x.ways(0, 4), -1);
        Due.due("ways(0, -1)", x.ways(0, -1), -1);
        x = Due.told("wires 8;", 1);
        Due.due("n 8: ways(0, 0)", x.ways(0, 0), 2);
        Due.due("n 8: ways(0, 85)", x.ways(0, 85), 1);
        Due.due("n 8: ways(4, 85)", x.ways(4, 85), 256);
        Due.due("n 8: ways(4, 256)", x.ways(4, 256), -1);
    }

    private static void keptDue(NeighbourWires x, int k, int b, int many, int least) {
        Due.due("kept(" + k + ", " + b + ", 0)", x.kept(k, b, 0), many);
        Due.due("kept(" + k + ", " + b + ", 1)", x.kept(k, b, 1), least);
    }

    private static void promise24() {
        NeighbourWires x = Due.told("wires 2;", 1);
        keptDue(x, 0, 0, 4, 0);
        keptDue(x, 0, 1, 2, 0);
        keptDue(x, 0, 2, 0, -4);
        keptDue(x, 1, 1, 4, 0);
        keptDue(x, 1, 2, 0, -4);
        keptDue(x, 2, 2, 4, 0);
        keptDue(x, 2, 3, 0, -4);
        keptDue(x, 4, 8, 0, -4);
        x = Due.told("wires 3;", 1);
        keptDue(x, 0, 1, 2, 0);
        keptDue(x, 4, 3, 8, 0);
        x = Due.told("wires 8;", 1);
        keptDue(x, 4, 8, 256, 0);
        keptDue(x, 3, 8, 0, -4);
        keptDue(x, -1, 0, -1, -1);
        keptDue(x, 5, 0, -1, -1);
        keptDue(x, 0, -1, -1, -1);
        keptDue(x, 0, 9, -1, -1);
        Due.due("kept(0, 0, 2)", x.kept(0, 0, 2), -1);
        Due.due("kept(0, 0, -1)", x.kept(0, 0, -1), -1);
    }

    private static void promise25() {
        NeighbourWires x = Due.told("wires 2;", 1);
        int[] bits = {1, 1, 2, 2, 2};
        for (int k = 0; k <= 4; k++) {
            Due.due("n 2: bits(" + k + ")", x.bits(k), bits[k]);
        }
        Due.due("bits(5)", x.bits(5), -1);
        Due.due("bits(-1)", x.bits(-1), -1);
        x = Due.told("wires 8;", 1);
        Due.due("n 8: bits(4)", x.bits(4), 8);
        Due.due("n 8: bits(3)", x.bits(3), 7);
        Due.due("n 8: bits(0)", x.bits(0), 1);
    }

    private static void promise26() {
        NeighbourWires x = Due.told("wires 2;", 1);
        Due.due("1, then 1", x.encode(1, 1, 3, 2), 1);
        Due.due("1, then 0", x.encode(1, 1, 1, 2), 0);
        Due.due("0, then 1", x.encode(1, 1, 2, 2), 1);
        Due.due("what is above the bits is not sent", x.encode(1, 1, 5, 2), 0);
        Due.due("no numbers", x.encode(1, 1, 7, 0), 0);
        Due.due("no bits", x.encode(0, 0, 7, 8), 0);
        Due.due("ways lead over what is not kept", x.encode(0, 1, 1, 1), 3);
        Due.due("encode(2, 2, 27, 4)", x.encode(2, 2, 27, 4), 0);
        Due.due("encode(2, 2, 27, 3)", x.encode(2, 2, 27, 3), 1);
        Due.due("encode(2, 3, 0, 0)", x.encode(2, 3, 0, 0), -2);
        Due.due("encode(1, 2, 1, 1)", x.encode(1, 2, 1, 1), -2);
        int[][] bad = {{-1, 1, 0, 0}, {5, 1, 0, 0}, {0, -1, 0, 0}, {0, 9, 0, 0}, {0, 1, -1, 0}, {0, 1, 0, -1},
            {0, 1, 0, 9}, {4, 8, 0, 4}, {4, 4, 0, 8}, {4, 5, 0, 7}, {0, 8, -1, 1}, {0, 0, Integer.MIN_VALUE, 0}};
        for (int[] a : bad) {
            String call = "encode(" + a[0] + ", " + a[1] + ", " + a[2] + ", " + a[3] + ")";
            Due.due(call, x.encode(a[0], a[1], a[2], a[3]), -1);
        }
        x = Due.told("wires 8;", 1);
        Due.due("24 bits", x.encode(4, 8, 0x7fabcdef, 3), 0xab);
        Due.due("30 bits", x.encode(4, 6, Integer.MAX_VALUE, 5), 63);
        Due.due("28 bits", x.encode(4, 7, 1 << 21, 4), 1);
        Due.due("31 bits and not 32", x.encode(4, 8, 0, 4), -1);
    }

    private static void promise27() {
        NeighbourWires x = Due.told("wires 2;", 1);
        Due.due("decode(1, 1, 1, 0)", x.decode(1, 1, 1, 0), 0);
        Due.due("decode(1, 1, 1, 1)", x.decode(1, 1, 1, 1), 1);
        Due.due("its number is 2", x.decode(1, 1, 1, 3), -4);
        Due.due("there is no such way", x.decode(1, 1, 1, 2), -4);
        Due.due("from is not kept", x.decode(0, 1, 1, 1), -4);
        Due.due("to is not kept", x.decode(0, 1, 0, 1), -4);
        Due.due("decode(0, 1, 0, 3)", x.decode(0, 1, 0, 3), 1);
        Due.due("decode(0, 0, 0, 0)", x.decode(0, 0, 0, 0), 0);
        Due.due("decode(0, 0, 0, 3)", x.decode(0, 0, 0, 3), -4);
        Due.due("decode(0, 0, 2, 2)", x.decode(0, 0, 2, 2), 0);
        Due.due("decode(0, 2, 0, 0)", x.decode(0, 2, 0, 0), -2);
        Due.due("decode(2, 8, 1, 1)", x.decode(2, 8, 1, 1), -2);
        int[][] bad = {{-1, 1, 0, 0}, {5, 1, 0, 0}, {0, -1, 0, 0}, {0, 9, 0, 0},
            {0, 1, -1, 0}, {0, 1, 0, -1}, {0, 1, 4, 0}, {0, 1, 0, 4}, {0, 2, 4, 0}};
        for (int[] a : bad) {
            String call = "decode(" + a[0] + ", " + a[1] + ", " + a[2] + ", " + a[3] + ")";
            Due.due(call, x.decode(a[0], a[1], a[2], a[3]), -1);
        }
    }

    private static void layDoesNotMatter() {
        NeighbourWires x = Due.told("wires 3; shield 0;", 2);
        NeighbourWires plain = Due.told("wires 3;", 1);
        x.order(201);
        for (int k = 0; k <= 4; k++) {
            Due.due("shielded: bits(" + k + ")", x.bits(k), plain.bits(k));
            for (int word = 0; word < 8; word++) {
                Due.due("shielded: ways(" + k + ")", x.ways(k, word), plain.ways(k, word));
            }
        }
        Due.text(x, "wires 2;", 1, 0);
        Due.due("fewer wires: ways(4, 0)", x.ways(4, 0), 4);
        Due.due("fewer wires: bits(4)", x.bits(4), 2);
    }

    /** What is encoded step by step comes back step by step. */
    private static void thereAndBack() {
        for (int n = 2; n <= 8; n++) {
            NeighbourWires x = Due.told("wires " + n + ";", 1);
            for (int k = 0; k <= 4; k++) {
                int b = x.bits(k);
                int count = Math.min(8, 31 / Math.max(b, 1));
                int v = 1234567891 & (1 << b * count) - 1;
                int back = 0;
                for (int i = 1; i <= count; i++) {
                    int from = x.encode(k, b, v, i - 1);
                    back |= x.decode(k, b, from, x.encode(k, b, v, i)) << b * (i - 1);
                }
                Due.due("n " + n + ", k " + k + ": there and back", back, v);
            }
        }
    }

    private static void byTheModel() {
        for (int n = 2; n <= 7; n++) {
            NeighbourWires x = Due.told("wires " + n + ";", 1);
            Model y = new Model();
            y.n = n;
            for (int k = 0; k <= 4; k++) {
                Due.due("n " + n + ": bits(" + k + ")", x.bits(k), y.bits(k));
                for (int b = 0; b <= 8; b++) {
                    String call = "n " + n + ": kept(" + k + ", " + b + ", ";
                    Due.due(call + "0)", x.kept(k, b, 0), y.kept(k, b, 0));
                    Due.due(call + "1)", x.kept(k, b, 1), y.kept(k, b, 1));
                }
            }
        }
    }
}
