/** The boundaries that promises 28 to 32 name, and one step to each side of them. */
public final class SheetsEdgesTest {
    private static final int NULL = 1, INDEX = 2, CAST = 3;

    public static void main(String[] args) throws ReflectiveOperationException {
        Edge.run(SheetsEdgesTest.class, 28, 32);
    }

    /** Eight wires; SHEET 1 of a lane has the cells that are told, all others are nothing. */
    private static NeighbourWires laid(int lane, int... cells) {
        NeighbourWires x = Edge.wired(8);
        Due.due("sheet", x.sheet(1, lane, cells.length), 1);
        for (int i = 0; i < cells.length; i++) {
            Due.due("lay", x.lay(1, i, cells[i]), 1);
        }
        return x;
    }

    private static void readIs(NeighbourWires x, int f, int m, int lane, int answer, int torn) {
        String call = "read(1, " + lane + ", " + f + ", " + m + ")";
        Due.due(call, x.read(1, lane, f, m), answer);
        Due.due("torn() of " + call, x.torn(), torn);
    }

    // ---- promise 28: sheet

    static void promise28SheetsFrom0To3() {
        Edge.outside("sheet(.., 0, 1)", Edge::furnished, 0, 3, -1, (x, v) -> x.sheet(v, 0, 1));
        for (int k = 0; k <= 3; k++) {
            int of = k;
            Edge.changesOnly("sheet(" + k + ", 0, 1)", Edge::furnished, x -> x.sheet(of, 0, 1), 1, "sheet " + k,
                k == 0 ? "count(6)" : "sheet " + k);
            NeighbourWires x = Edge.furnished();
            x.sheet(k, 0, 1);
            x.empty();
            Due.due("read", x.read(k, 0, 0, 1), 1);
            Due.due("sent(0)", x.sent(0), 0);
        }
    }

    static void promise28LanesFrom0To2() {
        Edge.outside("sheet(1, .., 1)", Edge::furnished, 0, 2, -1, (x, v) -> x.sheet(1, v, 1));
        for (int lane = 0; lane <= 2; lane++) {
            NeighbourWires x = Edge.furnished();
            Due.due("sheet(1, " + lane + ", 1)", x.sheet(1, lane, 1), 1);
            for (int as = 0; as <= 2; as++) {
                Due.due("read as of " + as, x.read(1, as, 0, 1), as == lane ? 1 : 0);
                Due.due("torn()", x.torn(), as == lane ? 0 : CAST);
            }
        }
    }

    static void promise28From0To40Cells() {
        int[] sizes = {0, 1, 2, 39, 40};
        for (int n : sizes) {
            NeighbourWires x = Edge.furnished();
            x.empty();
            Due.due("sheet(0, 2, " + n + ")", x.sheet(0, 2, n), 1);
            Due.due("count(6)", x.count(6), n);
            Due.due("lay in the last", x.lay(0, n - 1, 7), n == 0 ? -12 : 1);
            Due.due("lay behind it", x.lay(0, n, 7), -12);
            Due.due("read", x.read(0, 2, 0, 40), n);
            Due.due("torn()", x.torn(), n == 40 ? 0 : INDEX);
        }
        int[] above = {41, 42, Edge.MAX};
        for (int n : above) {
            Edge.keeps("sheet(0, 2, " + n + ")", Edge::furnished, x -> x.sheet(0, 2, n), -1);
        }
        int[] below = {-1, -2, Edge.MIN};
        for (int n : below) {
            Edge.keeps("sheet(0, 2, " + n + ")", Edge::furnished, x -> x.sheet(0, 2, n), -14);
            Edge.keeps("sheet(3, 2, " + n + ")", Edge::furnished, x -> x.sheet(3, 2, n), -14);
        }
    }

    static void promise28ANumberIsTestedAheadOfTheSize() {
        Edge.keeps("sheet(4, 0, -1)", Edge::furnished, x -> x.sheet(4, 0, -1), -1);
        Edge.keeps("sheet(-1, 0, -1)", Edge::furnished, x -> x.sheet(-1, 0, -1), -1);
        Edge.keeps("sheet(0, 3, -1)", Edge::furnished, x -> x.sheet(0, 3, -1), -1);
        Edge.keeps("sheet(0, -1, -1)", Edge::furnished, x -> x.sheet(0, -1, -1), -1);
        Edge.keeps("sheet(3, 2, -1)", Edge::furnished, x -> x.sheet(3, 2, -1), -14);
    }

    static void promise28ANewRowOfCells0() {
        NeighbourWires x = laid(0, 5, 6, 7);
        int[] sizes = {3, 0, 40};
        for (int n : sizes) {
            Due.due("sheet(1, 0, " + n + ")", x.sheet(1, 0, n), 1);
            Due.due("read", x.read(1, 0, 0, n), n);
            for (int i = 0; i < n; i++) {
                Due.due("sent(" + i + ")", x.sent(i), 0);
            }
            x.empty();
        }
        Due.due("a sheet of no cells is not nothing", x.sheet(1, 0, 0), 1);
        readIs(x, 0, 1, 0, 0, INDEX);
        readIs(x, 0, 1, 1, 0, CAST);
    }

    // ---- promise 29: lay

    static void promise29Sheets() {
        Edge.answers("lay(.., 0, 7)", Edge::furnished, 0, (x, v) -> x.lay(v, 0, v == 0 ? 7 : v == 2 ? 30 : 0), 1, 1, 1, -11);
        Edge.outside("lay(.., 99, 7)", Edge::furnished, 0, 3, -1, (x, v) -> x.lay(v, 99, 7));
    }

    static void promise29Cells() {
        for (int i = 0; i <= 2; i++) {
            int cell = i;
            Edge.changesOnly("lay(0, " + i + ", 9)", Edge::furnished, x -> x.lay(0, cell, 9), 1,
                "sheet 0: sent(" + i + ")");
            NeighbourWires x = Edge.furnished();
            x.empty();
            x.lay(0, i, 9);
            x.read(0, 1, 0, 3);
            int[] cells = {7, 8, 31};
            for (int j = 0; j <= 2; j++) {
                Due.due("CELL " + j, x.sent(j), j == i ? 9 : cells[j]);
            }
        }
        Edge.outside("lay(0, .., 9)", Edge::furnished, 0, 2, -12, (x, v) -> x.lay(0, v, 9));
        Edge.outside("lay(1, .., 9)", Edge::furnished, 0, 39, -12, (x, v) -> x.lay(1, v, 9));
        Edge.outside("lay(2, .., 9)", Edge::furnished, 0, 0, -12, (x, v) -> x.lay(2, v, 9));
        NeighbourWires x = laid(2);
        Due.due("lay(1, -1, 0) of no cells", x.lay(1, -1, 0), -12);
        Due.due("lay(1, 0, 0) of no cells", x.lay(1, 0, 0), -12);
        Due.due("lay(1, 1, 0) of no cells", x.lay(1, 1, 0), -12);
    }

    static void promise29NothingIsTestedAheadOfTheCell() {
        int[] cells = {-1, 0, 39, 40, Edge.MIN, Edge.MAX};
        for (int i : cells) {
            Edge.keeps("lay(3, " + i + ", 0)", Edge::furnished, x -> x.lay(3, i, 0), -11);
        }
    }

    private static void cellIs(int lane, int v, int word) {
        NeighbourWires x = laid(lane, v);
        readIs(x, 0, 1, lane, word < 0 ? -20 : 1, 0);
        Due.due(v + " in lane " + lane, x.sent(0), word);
    }

    static void promise29TheLowestEightBits() {
        int[] v = {0, 127, 128, 129, 255, 256, 257, 383, 384, -1, -128, -129, -256, 0x1234567F, Edge.MIN, Edge.MAX};
        int[] words = {0, 127, -1, -1, -1, 0, 1, 127, -1, -1, -1, 127, 0, 127, 0, -1};
        for (int i = 0; i < v.length; i++) {
            cellIs(0, v[i], words[i]);
        }
    }

    static void promise29TheLowestSixteenBits() {
        int[] v = {0, 127, 128, 255, 256, 32767, 32768, 65535, 65536, 65537, 65791, 65792, -1, -65536, -65281, Edge.MIN,
            Edge.MAX};
        int[] words = {0, 127, 128, 255, -1, -1, -1, -1, 0, 1, 255, -1, -1, 0, 255, 0, -1};
        for (int i = 0; i < v.length; i++) {
            cellIs(1, v[i], words[i]);
        }
    }

    static void promise29AllBitsOfAnInt() {
        int[] v = {0, 127, 255, 256, 65536, 65537, -1, Edge.MIN, Edge.MAX};
        int[] words = {0, 127, 255, -1, -1, -1, -1, -1, -1};
        for (int i = 0; i < v.length; i++) {
            cellIs(2, v[i], words[i]);
        }
    }

    // ---- promise 30: read

    static void promise30Sheets() {
        Edge.outside("read(.., 1, 0, 1)", Edge::furnished, 0, 3, -1, (x, v) -> x.read(v, 1, 0, 1));
        Edge.outside("read(.., 1, 0, 0)", Edge::furnished, 0, 3, -1, (x, v) -> x.read(v, 1, 0, 0));
        int[] came = {1, 0, 0, 0};
        int[] torn = {0, CAST, CAST, NULL};
        for (int k = 0; k <= 3; k++) {
            NeighbourWires x = Edge.furnished();
            Due.due("read(" + k + ", 1, 0, 1)", x.read(k, 1, 0, 1), came[k]);
            Due.due("torn()", x.torn(), torn[k]);
        }
    }

    static void promise30Lanes() {
        Edge.outside("read(0, .., 0, 1)", Edge::furnished, 0, 2, -1, (x, v) -> x.read(0, v, 0, 1));
        Edge.outside("read(3, .., 0, 0)", Edge::furnished, 0, 2, -1, (x, v) -> x.read(3, v, 0, 0));
        for (int lane = 0; lane <= 2; lane++) {
            for (int as = 0; as <= 2; as++) {
                readIs(laid(lane, 7), 0, 1, as, as == lane ? 1 : 0, as == lane ? 0 : CAST);
            }
        }
    }

    static void promise30From0To40Words() {
        Edge.outside("read(1, 0, 0, ..)", Edge::furnished, 0, 40, -1, (x, v) -> x.read(1, 0, 0, v));
        Edge.outside("read(3, 0, 0, ..)", Edge::furnished, 0, 40, -1, (x, v) -> x.read(3, 0, 0, v));
        int[] inside = {0, 1, 2, 39, 40};
        for (int m : inside) {
            NeighbourWires x = laid(0, new int[40]);
            readIs(x, 0, m, 0, m, 0);
            Due.due("count(4)", x.count(4), m);
        }
    }

    static void promise30OfNoWordsThereIsNoFault() {
        int[] froms = {-1, 0, 2, 3, 4, Edge.MIN, Edge.MAX};
        for (int f : froms) {
            for (int k = 0; k <= 3; k++) {
                for (int lane = 0; lane <= 2; lane++) {
                    NeighbourWires x = Edge.furnished();
                    Due.due("torn() at first", x.torn(), INDEX);
                    Due.due("read(" + k + ", " + lane + ", " + f + ", 0)", x.read(k, lane, f, 0), 0);
                    Due.due("torn()", x.torn(), 0);
                    Due.due("count(4)", x.count(4), 4);
                }
            }
        }
        NeighbourWires x = Due.told("step 0 0 40;", 1);
        Due.due("to a full row", x.read(0, 0, 0, 0), 0);
    }

    static void promise30FromACellOn() {
        int[] cells = {11, 12, 13, 14};
        int[] froms = {Edge.MIN, -2, -1, 0, 1, 2, 3, 4, 5, Edge.MAX - 1, Edge.MAX};
        int[] came = {0, 0, 0, 2, 2, 2, 1, 0, 0, 0, 0};
        for (int i = 0; i < froms.length; i++) {
            NeighbourWires x = laid(2, cells);
            readIs(x, froms[i], 2, 2, came[i], came[i] == 2 ? 0 : INDEX);
            Due.due("count(4)", x.count(4), came[i]);
            for (int j = 0; j < came[i]; j++) {
                Due.due("sent(" + j + ")", x.sent(j), cells[froms[i] + j]);
            }
        }
    }

    static void promise30ThoseAheadOfTheFaultCome() {
        for (int m = 3; m <= 5; m++) {
            NeighbourWires x = laid(1, 11, 12, 13, 14);
            x.send(9);
            readIs(x, 0, m, 1, Math.min(m, 4), m == 5 ? INDEX : 0);
            Due.due("count(4)", x.count(4), 1 + Math.min(m, 4));
            Due.due("sent(0)", x.sent(0), 9);
            Due.due("sent(3)", x.sent(3), 13);
        }
        readIs(laid(1, 11, 12), 0, 40, 1, 2, INDEX);
        readIs(laid(1), 0, 1, 1, 0, INDEX);
    }

    static void promise30NullThenCastThenIndex() {
        NeighbourWires x = laid(1, 11);
        Due.due("nothing, wherever", x.read(2, 0, -1, 1), 0);
        Due.due("torn()", x.torn(), NULL);
        readIs(x, -1, 1, 0, 0, CAST);
        readIs(x, 1, 1, 2, 0, CAST);
        readIs(x, -1, 1, 1, 0, INDEX);
        readIs(x, 1, 1, 1, 0, INDEX);
        readIs(x, 0, 1, 1, 1, 0);
    }

    static void promise30ACellThatIsNoWord() {
        for (int n = 2; n <= 8; n++) {
            int last = (1 << n) - 1;
            NeighbourWires x = Edge.wired(n);
            x.sheet(1, 2, 4);
            int[] v = {-1, 0, last, last + 1};
            for (int i = 0; i < v.length; i++) {
                x.lay(1, i, v[i]);
            }
            readIs(x, 0, 1, 2, -20, 0);
            readIs(x, 1, 1, 2, 1, 0);
            readIs(x, 1, 2, 2, 2, 0);
            readIs(x, 1, 3, 2, -22, 0);
            readIs(x, 2, 2, 2, -21, 0);
            readIs(x, 3, 1, 2, -20, 0);
            readIs(x, 3, 40, 2, -20, 0);
            Due.due("those of what was refused did not come", x.count(4), 3);
        }
    }

    static void promise30WhereTheWordIsMissing() {
        for (int i = 0; i < 40; i++) {
            int[] cells = new int[40];
            cells[i] = -1;
            NeighbourWires x = laid(0, cells);
            readIs(x, 0, i, 0, i, 0);
            x.empty();
            readIs(x, 0, 40, 0, -20 - i, 0);
            readIs(x, i, 1, 0, -20, 0);
            Due.due("none came", x.count(4), 0);
        }
    }

    private static NeighbourWires nearlyFull(int length) {
        NeighbourWires x = laid(0, 1, 2, 3);
        for (int i = 0; i < length; i++) {
            x.send(9);
        }
        return x;
    }

    static void promise30TheFortyFirstIsFull() {
        for (int m = 0; m <= 3; m++) {
            int many = m;
            int length = 40 - m;
            NeighbourWires x = nearlyFull(length);
            readIs(x, 0, m, 0, m, 0);
            Due.due("count(4)", x.count(4), 40);
            if (m > 0) {
                Edge.keeps("read of one too many", () -> nearlyFull(length + 1), y -> y.read(1, 0, 0, many), -3);
            }
        }
        Edge.keeps("read to a full row", () -> nearlyFull(40), x -> x.read(1, 0, 0, 1), -3);
        NeighbourWires x = laid(0, new int[40]);
        readIs(x, 0, 40, 0, 40, 0);
        readIs(x, 0, 1, 0, -3, 0);
        x.empty();
        x.send(1);
        readIs(x, 0, 40, 0, -3, 0);
        readIs(x, 0, 39, 0, 39, 0);
    }

    static void promise30TheFirstMet() {
        NeighbourWires x = nearlyFull(38);
        x.lay(1, 2, -1);
        readIs(x, 0, 3, 0, -22, 0);
        x.lay(1, 1, -1);
        readIs(x, 0, 3, 0, -21, 0);
        x.lay(1, 1, 2);
        x.send(9);
        readIs(x, 0, 3, 0, -3, 0);
        readIs(x, 2, 1, 0, -20, 0);
        x.send(9);
        readIs(x, 2, 1, 0, -20, 0);
        readIs(x, 1, 2, 0, -3, 0);
        readIs(x, 3, 1, 0, 0, INDEX);
        readIs(x, 2, 2, 0, -20, INDEX);
        readIs(x, 0, 1, 1, 0, CAST);
    }

    static void promise30TheRowMayBeFullWhereTheFaultIs() {
        NeighbourWires x = nearlyFull(37);
        readIs(x, 0, 4, 0, 3, INDEX);
        Due.due("count(4)", x.count(4), 40);
        x = nearlyFull(38);
        readIs(x, 0, 4, 0, -3, 0);
        Due.due("count(4)", x.count(4), 38);
        x = nearlyFull(38);
        readIs(x, 1, 4, 0, 2, INDEX);
        Due.due("count(4)", x.count(4), 40);
    }

    static void promise30WhatIsRefusedChangesNothing() {
        Edge.keeps("read of no WORD", () -> spoiled(2), x -> x.read(0, 1, 0, 3), -22);
        Edge.keeps("read of no WORD", () -> spoiled(0), x -> x.read(0, 1, 0, 3), -20);
        Edge.changesOnly("read", Edge::furnished, x -> x.read(0, 1, 0, 3), 3, "count(4)", "sent(4)", "sent(5)", "sent(6)",
            "torn()");
        Edge.changesOnly("read of nothing", Edge::furnished, x -> x.read(3, 1, 0, 3), 0, "torn()");
        Edge.keeps("read behind the last CELL, as before", Edge::furnished, x -> x.read(0, 1, 3, 1), 0);
    }

    private static NeighbourWires spoiled(int cell) {
        NeighbourWires x = Edge.furnished();
        x.lay(0, cell, 32);
        return x;
    }

    // ---- promise 31: torn

    static void promise31OfTheLatestReadThatAnswered0OrMore() {
        NeighbourWires x = laid(0, 1, 2, 200);
        Due.due("torn() at first", x.torn(), 0);
        Due.due("read of nothing", x.read(0, 0, 0, 1), 0);
        Due.due("torn()", x.torn(), NULL);
        readIs(x, 2, 1, 0, -20, NULL);
        readIs(x, 0, 3, 0, -22, NULL);
        readIs(x, 0, 41, 0, -1, NULL);
        readIs(x, 0, -1, 0, -1, NULL);
        readIs(x, 0, 1, 3, -1, NULL);
        Due.due("read of no SHEET", x.read(4, 0, 0, 1), -1);
        Due.due("torn()", x.torn(), NULL);
        readIs(x, 0, 1, 1, 0, CAST);
        readIs(x, 3, 1, 0, 0, INDEX);
        readIs(x, 0, 2, 0, 2, 0);
        readIs(x, 3, 1, 0, 0, INDEX);
        readIs(x, 3, 0, 0, 0, 0);
    }

    static void promise31AFullRowLeavesIt() {
        NeighbourWires x = nearlyFull(40);
        readIs(x, 3, 1, 0, 0, INDEX);
        readIs(x, 0, 1, 0, -3, INDEX);
        readIs(x, 0, 0, 0, 0, 0);
    }

    static void promise31NothingElseChangesIt() {
        NeighbourWires x = Edge.furnished();
        x.sheet(0, 0, -1);
        x.sheet(0, 0, 3);
        x.lay(3, 0, 0);
        x.lay(0, 3, 0);
        x.text();
        x.empty();
        Due.due("torn()", x.torn(), INDEX);
        Due.due("torn() again", x.torn(), INDEX);
        Edge.keeps("torn()", Edge::furnished, NeighbourWires::torn, INDEX);
    }

    // ---- promise 32: count

    static void promise32WhatIsAsked() {
        Edge.answers("count", Edge::furnished, 0, NeighbourWires::count, 5, 7, 9, 2, 4, 15, 3);
        Edge.answers("count of a new one", NeighbourWires::new, 0, NeighbourWires::count, 4, 1, 1, 0, 0, 0, -4);
    }

    static void promise32TheMostThereMayBe() {
        NeighbourWires x = Due.told("wires 8;own 99;side 99;shield 0;shield 1;shield 2;shield 3;shield 4;shield 5;"
            + "shield 6;step 0 0 40;", 11);
        Due.feed(x, Edge.times(240, " "));
        x.sheet(0, 2, 40);
        int[] due = {8, 99, 99, 7, 40, 240, 40};
        for (int what = 0; what < due.length; what++) {
            Due.due("count(" + what + ")", x.count(what), due[what]);
        }
    }

    static void promise32CellsOfSheet0AndNothing() {
        NeighbourWires x = new NeighbourWires();
        for (int k = 1; k <= 3; k++) {
            x.sheet(k, 0, 9);
            Due.due("count(6) with SHEET " + k, x.count(6), -4);
        }
        Due.due("sheet(0, 0, -1)", x.sheet(0, 0, -1), -14);
        Due.due("count(6)", x.count(6), -4);
        int[] sizes = {0, 1, 40, 0};
        for (int n : sizes) {
            x.sheet(0, 1, n);
            Due.due("count(6)", x.count(6), n);
        }
    }
}
