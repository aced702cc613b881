/** The boundaries that promises 23 to 27 name, and one step to each side of them. */
public final class MachinesEdgesTest {
    public static void main(String[] args) throws ReflectiveOperationException {
        Edge.run(MachinesEdgesTest.class, 23, 27);
    }

    private static NeighbourWires two() {
        return Edge.wired(2);
    }

    private static NeighbourWires eight() {
        return Edge.wired(8);
    }

    // ---- promise 23: ways

    static void promise23SlowFrom0To4() {
        Edge.answers("ways(.., 0)", MachinesEdgesTest::two, 0, (x, v) -> x.ways(v, 0), 2, 4, 4, 4, 4);
        Edge.answers("ways(.., 1)", MachinesEdgesTest::two, 0, (x, v) -> x.ways(v, 1), 1, 3, 4, 4, 4);
        Edge.answers("ways(.., 5)", NeighbourWires::new, 0, (x, v) -> x.ways(v, 5), 1, 4, 8, 13, 16);
    }

    static void promise23Words() {
        Edge.answers("ways(1, ..)", MachinesEdgesTest::two, 0, (x, v) -> x.ways(1, v), 4, 3, 3, 4);
        for (int n = 2; n <= 8; n++) {
            int last = (1 << n) - 1;
            int wires = n;
            Edge.outside("n " + n + ": ways(4, ..)", () -> Edge.wired(wires), 0, last, -1, (x, v) -> x.ways(4, v));
            NeighbourWires x = Edge.wired(n);
            Due.due("n " + n + ": ways(4, 0)", x.ways(4, 0), 1 << n);
            Due.due("n " + n + ": ways(4, last)", x.ways(4, last), 1 << n);
            Due.due("n " + n + ": ways(0, 0)", x.ways(0, 0), 2);
            Due.due("n " + n + ": ways(0, last)", x.ways(0, last), 2);
            Due.due("n " + n + ": ways(0, last - 1)", x.ways(0, last - 1), 1);
        }
    }

    static void promise23ItselfTooAndAllWords() {
        NeighbourWires x = two();
        Due.due("itself alone: ways(0, 1)", x.ways(0, 1), 1);
        Due.due("only 0 and 3 are KEPT", x.kept(0, 1, 0), 2);
        Due.due("but 1 has a way still", x.ways(0, 1), 1);
        Due.due("only 0 to 3 of 4 WORDS", x.ways(4, 2), 4);
    }

    static void promise23OfFewerWiresThanBefore() {
        NeighbourWires x = eight();
        Due.due("n 8: ways(4, 0)", x.ways(4, 0), 256);
        Due.text(x, "wires 2;", 1, 0);
        Due.due("n 2: ways(4, 0)", x.ways(4, 0), 4);
        Due.due("n 2: ways(0, 1)", x.ways(0, 1), 1);
        Due.due("n 2: ways(4, 4)", x.ways(4, 4), -1);
        Due.text(x, "wires 3;", 1, 0);
        Due.due("n 3: ways(4, 4)", x.ways(4, 4), 8);
        Due.due("n 3: ways(0, 0)", x.ways(0, 0), 2);
        Due.text(x, "wires 2;", 1, 0);
        Due.due("n 2: ways(0, 0)", x.ways(0, 0), 2);
    }

    static void promise23NothingElseMattersOrChanges() {
        for (int k = 0; k <= 4; k++) {
            int slow = k;
            int due = Edge.wired(5).ways(k, 9);
            Edge.keeps("ways(" + k + ", 9)", Edge::furnished, x -> x.ways(slow, 9), due);
        }
    }

    // ---- promise 24: kept

    static void promise24SlowFrom0To4() {
        Edge.answers("kept(.., 1, 0)", MachinesEdgesTest::two, 0, (x, v) -> x.kept(v, 1, 0), 2, 4, 4, 4, 4);
        Edge.answers("kept(.., 2, 0)", MachinesEdgesTest::two, 0, (x, v) -> x.kept(v, 2, 0), 0, 0, 4, 4, 4);
        Edge.answers("kept(.., 2, 1)", MachinesEdgesTest::two, 0, (x, v) -> x.kept(v, 2, 1), -4, -4, 0, 0, 0);
    }

    static void promise24From0To8Bits() {
        Edge.answers("kept(4, .., 0)", MachinesEdgesTest::two, 0, (x, v) -> x.kept(4, v, 0), 4, 4, 4, 0, 0, 0, 0, 0, 0);
        Edge.answers("kept(4, .., 1)", MachinesEdgesTest::two, 0, (x, v) -> x.kept(4, v, 1), 0, 0, 0, -4, -4, -4, -4, -4,
            -4);
        Edge.answers("kept(4, .., 0)", MachinesEdgesTest::eight, 0, (x, v) -> x.kept(4, v, 0), 256, 256, 256, 256, 256,
            256, 256, 256, 256);
    }

    static void promise24WhatIsAsked() {
        Edge.answers("kept(0, 0, ..)", MachinesEdgesTest::two, 0, (x, v) -> x.kept(0, 0, v), 4, 0);
        Edge.answers("kept(0, 1, ..)", MachinesEdgesTest::two, 0, (x, v) -> x.kept(0, 1, v), 2, 0);
        Edge.answers("kept(0, 2, ..)", MachinesEdgesTest::two, 0, (x, v) -> x.kept(0, 2, v), 0, -4);
        Edge.answers("kept(0, 8, ..)", Edge::furnished, 0, (x, v) -> x.kept(0, 8, v), 0, -4);
    }

    static void promise24FewerThan2ToTheBWays() {
        for (int n = 2; n <= 8; n++) {
            NeighbourWires x = Edge.wired(n);
            Due.due("as many as 2 to the n", x.kept(4, n, 0), 1 << n);
            if (n < 8) {
                Due.due("fewer than 2 to the n and 1", x.kept(4, n + 1, 0), 0);
            }
            Due.due("one way, to itself", x.kept(0, 0, 0), 1 << n);
            Due.due("two ways", x.kept(0, 1, 0), 2);
            Due.due("fewer than four ways", x.kept(0, 2, 0), 0);
        }
    }

    static void promise24AgainAndAgain() {
        NeighbourWires x = two();
        Due.due("0 has four ways at first", x.ways(1, 0), 4);
        Due.due("1 has three", x.ways(1, 1), 3);
        Due.due("so 0 loses its ways, too", x.kept(1, 2, 0), 0);
    }

    static void promise24NothingElseMattersOrChanges() {
        int due = Edge.wired(5).kept(2, 3, 0);
        Edge.keeps("kept(2, 3, 0)", Edge::furnished, x -> x.kept(2, 3, 0), due);
    }

    // ---- promise 25: bits

    static void promise25SlowFrom0To4() {
        Edge.answers("n 2: bits", MachinesEdgesTest::two, 0, NeighbourWires::bits, 1, 1, 2, 2, 2);
        Edge.answers("n 4: bits", NeighbourWires::new, 0, NeighbourWires::bits, 1, 2, 3, 3, 4);
        Edge.answers("n 8: bits", MachinesEdgesTest::eight, 0, NeighbourWires::bits, 1, 4, 6, 7, 8);
        NeighbourWires plain = Edge.wired(5);
        Edge.answers("n 5: bits", Edge::furnished, 0, NeighbourWires::bits, plain.bits(0), plain.bits(1), plain.bits(2),
            plain.bits(3), plain.bits(4));
    }

    static void promise25TheMostThatItSends() {
        for (int n = 2; n <= 8; n++) {
            for (int k = 0; k <= 4; k++) {
                NeighbourWires x = Edge.wired(n);
                int b = x.bits(k);
                Due.dueTrue("some are KEPT for " + b, x.kept(k, b, 0) > 0);
                Due.due("none are KEPT for one more", b == 8 ? 0 : x.kept(k, b + 1, 0), 0);
                Due.dueTrue("it sends " + b, x.encode(k, b, 0, 1) >= 0);
                Due.due("it does not send one more", b == 8 ? -2 : x.encode(k, b + 1, 0, 1), -2);
            }
            Due.due("n " + n + ": bits(4)", Edge.wired(n).bits(4), n);
        }
    }

    // ---- promise 26: encode

    static void promise26SlowFrom0To4() {
        Edge.answers("encode(.., 1, 1, 1)", MachinesEdgesTest::two, 0, (x, v) -> x.encode(v, 1, 1, 1), 3, 1, 1, 1, 1);
        Edge.answers("encode(.., 2, 3, 1)", MachinesEdgesTest::two, 0, (x, v) -> x.encode(v, 2, 3, 1), -2, -2, 3, 3, 3);
    }

    static void promise26From0To8Bits() {
        Edge.answers("encode(4, .., 3, 1)", MachinesEdgesTest::two, 0, (x, v) -> x.encode(4, v, 3, 1), 0, 1, 3, -2, -2, -2,
            -2, -2, -2);
        Edge.answers("encode(4, .., MAX, 1)", MachinesEdgesTest::eight, 0, (x, v) -> x.encode(4, v, Edge.MAX, 1), 0, 1, 3,
            7, 15, 31, 63, 127, 255);
    }

    static void promise26From0To8Numbers() {
        int v = 0x00FAC688;
        int[] words = {0, v & 7, v >> 3 & 7, v >> 6 & 7, v >> 9 & 7, v >> 12 & 7, v >> 15 & 7, v >> 18 & 7, v >> 21 & 7};
        Edge.answers("encode(4, 3, v, ..)", MachinesEdgesTest::eight, 0, (x, count) -> x.encode(4, 3, v, count), words);
        Edge.answers("encode(0, 0, v, ..)", MachinesEdgesTest::eight, 0, (x, count) -> x.encode(0, 0, v, count), 0, 0, 0,
            0, 0, 0, 0, 0, 0);
    }

    static void promise26NoMoreBitsThan31() {
        int[] most = {8, 8, 8, 8, 7, 6, 5, 4, 3};
        for (int b = 0; b <= 8; b++) {
            int bits = b;
            for (int count = 0; count <= 8; count++) {
                int many = count;
                if (count > most[b]) {
                    Edge.keeps("encode(4, " + b + ", 0, " + count + ")", MachinesEdgesTest::eight,
                        x -> x.encode(4, bits, 0, many), -1);
                } else {
                    int last = count == 0 ? 0 : Edge.MAX >> b * (count - 1) & (1 << b) - 1;
                    Due.due("encode(4, " + b + ", MAX, " + count + ")", eight().encode(4, b, Edge.MAX, count), last);
                }
            }
        }
    }

    static void promise26NoNumberBelow0() {
        int[] below = {-1, -2, Edge.MIN};
        for (int v : below) {
            Edge.keeps("encode(4, 1, " + v + ", 1)", Edge::furnished, x -> x.encode(4, 1, v, 1), -1);
            Edge.keeps("encode(4, 0, " + v + ", 0)", Edge::furnished, x -> x.encode(4, 0, v, 0), -1);
        }
        Edge.keeps("encode(4, 1, 0, 1)", Edge::furnished, x -> x.encode(4, 1, 0, 1), 0);
        Edge.keeps("encode(4, 1, 1, 1)", Edge::furnished, x -> x.encode(4, 1, 1, 1), 1);
        Edge.keeps("encode(4, 1, MAX, 8)", Edge::furnished, x -> x.encode(4, 1, Edge.MAX, 8), 1);
    }

    static void promise26ANumberIsTestedAheadOfWhatItSends() {
        int[][] bad = {{0, 8, -1, 1}, {0, 8, 1, -1}, {0, 8, 1, 9}, {0, 8, 1, 4}, {0, 4, 1, 8}, {0, 9, 1, 1}, {5, 8, 1, 1},
            {-1, 8, 1, 1}, {0, -1, 1, 1}};
        for (int[] a : bad) {
            Edge.keeps("encode of what is not as told", MachinesEdgesTest::two, x -> x.encode(a[0], a[1], a[2], a[3]), -1);
        }
        int[][] state = {{0, 8, 0, 0}, {0, 8, 1, 3}, {0, 4, 1, 7}, {0, 2, 1, 1}, {1, 2, 1, 1}, {2, 3, 1, 1}, {4, 3, 1, 8}};
        for (int[] a : state) {
            Edge.keeps("encode of more bits than it sends", MachinesEdgesTest::two, x -> x.encode(a[0], a[1], a[2], a[3]),
                -2);
        }
    }

    static void promise26TheLowestBitsFirst() {
        NeighbourWires x = eight();
        Due.due("none yet", x.encode(4, 8, 0x030201, 0), 0);
        Due.due("the first", x.encode(4, 8, 0x030201, 1), 1);
        Due.due("the second", x.encode(4, 8, 0x030201, 2), 2);
        Due.due("the third", x.encode(4, 8, 0x030201, 3), 3);
        Due.due("those behind it are not sent", x.encode(4, 8, 0x7F030201, 3), 3);
    }

    static void promise26WaysToKeptWordsAlone() {
        NeighbourWires x = two();
        Due.due("to 3, over 1 and 2, which are not KEPT", x.encode(0, 1, 1, 1), 3);
        Due.due("and back", x.encode(0, 1, 1, 2), 0);
        Due.due("by k 1 to 1", x.encode(1, 1, 1, 1), 1);
    }

    /** With k 1 there go ways from 0 to 0, 1, 3 and on, from 3 to 0, 2, 3 and on. */
    static void promise26ByTheWaysOfTheWordItIsAt() {
        NeighbourWires x = Edge.wired(3);
        Due.due("number 0", x.encode(1, 2, 0, 1), 0);
        Due.due("number 1", x.encode(1, 2, 1, 1), 1);
        Due.due("number 2", x.encode(1, 2, 2, 1), 3);
        Due.due("number 3", x.encode(1, 2, 3, 1), 4);
        Due.due("numbers 2, 0", x.encode(1, 2, 2, 2), 0);
        Due.due("numbers 2, 1", x.encode(1, 2, 2 + 4, 2), 2);
        Due.due("numbers 2, 2", x.encode(1, 2, 2 + 8, 2), 3);
        Due.due("numbers 2, 3", x.encode(1, 2, 2 + 12, 2), 6);
    }

    static void promise26WhereSomeAreNotKept() {
        int[] numbers = {0, 1, 0x0F0F0F0, 0x1234567, 0x7654321, 0xFEDCBA9, 0x5A5A5A5, 0x7FFFFFF};
        Model y = new Model();
        y.n = 5;
        for (int v : numbers) {
            NeighbourWires x = Edge.wired(5);
            for (int count = 0; count <= 8; count++) {
                String call = "encode(2, 4, " + v + ", " + count + ")";
                Due.due(call, x.encode(2, 4, v, count), y.encode(2, 4, v, count));
            }
        }
    }

    // ---- promise 27: decode

    static void promise27SlowFrom0To4() {
        Edge.answers("decode(.., 1, 0, 1)", MachinesEdgesTest::two, 0, (x, v) -> x.decode(v, 1, 0, 1), -4, 1, 1, 1, 1);
        Edge.answers("decode(.., 2, 0, 3)", MachinesEdgesTest::two, 0, (x, v) -> x.decode(v, 2, 0, 3), -2, -2, 3, 3, 3);
    }

    static void promise27From0To8Bits() {
        Edge.answers("decode(4, .., 0, 3)", MachinesEdgesTest::two, 0, (x, v) -> x.decode(4, v, 0, 3), -4, -4, 3, -2, -2,
            -2, -2, -2, -2);
        Edge.answers("decode(4, .., 9, 4)", MachinesEdgesTest::eight, 0, (x, v) -> x.decode(4, v, 9, 4), -4, -4, -4, 4, 4,
            4, 4, 4, 4);
    }

    static void promise27Words() {
        Edge.answers("decode(1, 1, .., 0)", MachinesEdgesTest::two, 0, (x, v) -> x.decode(1, 1, v, 0), 0, 0, 0, 0);
        Edge.answers("decode(1, 1, 1, ..)", MachinesEdgesTest::two, 0, (x, v) -> x.decode(1, 1, 1, v), 0, 1, -4, -4);
        for (int n = 2; n <= 8; n++) {
            int last = (1 << n) - 1;
            int wires = n;
            Edge.outside("n " + n + ": decode(4, 0, .., 0)", () -> Edge.wired(wires), 0, last, -1,
                (x, v) -> x.decode(4, 0, v, 0));
            Edge.outside("n " + n + ": decode(4, 0, 0, ..)", () -> Edge.wired(wires), 0, last, -1,
                (x, v) -> x.decode(4, 0, 0, v));
            Due.due("n " + n + ": decode to the last", Edge.wired(n).decode(4, n, last, last), last);
            Due.due("n " + n + ": decode to the first", Edge.wired(n).decode(4, n, last, 0), 0);
        }
    }

    static void promise27ItsNumberIsLessThan2ToTheB() {
        for (int b = 0; b <= 8; b++) {
            int words = 1 << b;
            NeighbourWires x = eight();
            Due.due("the greatest number of " + b + " bits", x.decode(4, b, 200, words - 1), words - 1);
            Due.due("one more", b == 8 ? -4 : x.decode(4, b, 200, words), -4);
        }
        Due.due("the third of three ways", two().decode(1, 1, 1, 3), -4);
        Due.due("the second of three ways", two().decode(1, 1, 1, 1), 1);
    }

    static void promise27NoSuchWay() {
        NeighbourWires x = two();
        Due.due("from 1 to 2 with k 1", x.decode(1, 1, 1, 2), -4);
        Due.due("from 2 to 1 with k 1", x.decode(1, 1, 2, 1), -4);
        Due.due("from 1 to 2 with k 2", x.decode(2, 2, 1, 2), 2);
        Due.due("to itself", x.decode(1, 1, 1, 1), 1);
    }

    static void promise27OneOfThemIsNotKept() {
        NeighbourWires x = two();
        Due.due("from is not KEPT", x.decode(0, 1, 1, 1), -4);
        Due.due("neither is KEPT", x.decode(0, 1, 1, 2), -4);
        Due.due("to is not KEPT", x.decode(0, 1, 0, 1), -4);
        Due.due("both are KEPT", x.decode(0, 1, 0, 3), 1);
        Due.due("all are KEPT for 0 bits", x.decode(0, 0, 1, 1), 0);
    }

    static void promise27WaysBetweenKeptWordsAndOthers() {
        Due.due("kept(2, 4, 0)", Edge.wired(5).kept(2, 4, 0), 26);
        Model y = new Model();
        y.n = 5;
        for (int from = 0; from < 32; from++) {
            NeighbourWires x = Edge.wired(5);
            for (int to = 0; to < 32; to++) {
                Due.due("decode(2, 4, " + from + ", " + to + ")", x.decode(2, 4, from, to), y.decode(2, 4, from, to));
            }
        }
    }

    static void promise27ANumberThenWhatItSendsThenTheRest() {
        int[][] bad = {{0, 8, -1, 0}, {0, 8, 4, 0}, {0, 8, 0, -1}, {0, 8, 0, 4}, {0, 9, 0, 0}, {5, 8, 0, 0}, {-1, 8, 0, 0}};
        for (int[] a : bad) {
            Edge.keeps("decode of what is not as told", MachinesEdgesTest::two, x -> x.decode(a[0], a[1], a[2], a[3]), -1);
        }
        int[][] state = {{0, 2, 1, 2}, {0, 8, 1, 1}, {1, 2, 1, 2}, {4, 3, 0, 0}};
        for (int[] a : state) {
            Edge.keeps("decode of more bits than it sends", MachinesEdgesTest::two, x -> x.decode(a[0], a[1], a[2], a[3]),
                -2);
        }
    }

    static void promise27NothingElseMattersOrChanges() {
        int due = Edge.wired(5).decode(2, 3, 3, 1);
        Edge.keeps("decode(2, 3, 3, 1)", Edge::furnished, x -> x.decode(2, 3, 3, 1), due);
    }
}
