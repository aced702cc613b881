/** The boundaries that promises 11 to 17 name, and one step to each side of them. */
public final class RowEdgesTest {
    public static void main(String[] args) throws ReflectiveOperationException {
        Edge.run(RowEdgesTest.class, 11, 17);
    }

    /** A row of so many WORDS, 0 and 1 by turns, on four wires. */
    private static NeighbourWires rowOf(int length) {
        NeighbourWires x = new NeighbourWires();
        for (int i = 0; i < length; i++) {
            Due.due("send", x.send(i & 1), i + 1);
        }
        return x;
    }

    // ---- promise 11: send

    static void promise11TheFortyFirstIsFull() {
        int[] taken = {0, 1, 38, 39};
        for (int length : taken) {
            NeighbourWires x = rowOf(length);
            Due.due("send to " + length, x.send(9), length + 1);
            Due.due("count(4)", x.count(4), length + 1);
            Due.due("the last", x.sent(length), 9);
        }
        Edge.keeps("send to 40", () -> rowOf(40), x -> x.send(9), -3);
        NeighbourWires x = rowOf(40);
        x.send(9);
        Due.due("send to 40 again", x.send(0), -3);
    }

    static void promise11AWordIsTestedAheadOfAFullRow() {
        Edge.keeps("send(15) to 40", () -> rowOf(40), x -> x.send(15), -3);
        Edge.keeps("send(16) to 40", () -> rowOf(40), x -> x.send(16), -1);
        Edge.keeps("send(-1) to 40", () -> rowOf(40), x -> x.send(-1), -1);
    }

    static void promise11Words() {
        for (int n = 2; n <= 8; n++) {
            int last = (1 << n) - 1;
            int wires = n;
            Edge.outside("n " + n + ": send", () -> Edge.wired(wires), 0, last, -1, NeighbourWires::send);
            NeighbourWires x = Edge.wired(n);
            int[] words = {0, 1, last - 1, last};
            for (int i = 0; i < words.length; i++) {
                Due.due("send(" + words[i] + ")", x.send(words[i]), i + 1);
                Due.due("sent(" + i + ")", x.sent(i), words[i]);
            }
        }
    }

    static void promise11OnlyTheRowChanges() {
        Edge.changesOnly("send(31)", Edge::furnished, x -> x.send(31), 5, "count(4)", "sent(4)");
        Edge.keeps("send(32)", Edge::furnished, x -> x.send(32), -1);
    }

    // ---- promise 12: empty

    static void promise12HowManyItHad() {
        int[] lengths = {0, 1, 2, 39, 40};
        for (int length : lengths) {
            NeighbourWires x = rowOf(length);
            Due.due("empty() of " + length, x.empty(), length);
            Due.due("count(4)", x.count(4), 0);
            Due.due("sent(0)", x.sent(0), -1);
            Due.due("empty() again", x.empty(), 0);
            Due.due("send(7)", x.send(7), 1);
            Due.due("sent(0)", x.sent(0), 7);
            Due.due("sent(1)", x.sent(1), -1);
        }
    }

    static void promise12TheRowThenComesFromWord0Again() {
        NeighbourWires x = Due.told("send 15;", 1);
        x.empty();
        x.send(15);
        Due.due("MOVES", x.row(3), 4);
    }

    static void promise12OnlyTheRowChanges() {
        Edge.changesOnly("empty()", Edge::furnished, NeighbourWires::empty, 4, "count(4)", "sent(");
        Edge.keeps("empty() of none", NeighbourWires::new, NeighbourWires::empty, 0);
    }

    // ---- promise 13: sent

    static void promise13WordsOfTheRowAlone() {
        Edge.answers("sent", Edge::furnished, 0, NeighbourWires::sent, 3, 31, 0, 21);
        Edge.answers("sent of one", () -> rowOf(1), 0, NeighbourWires::sent, 0);
        NeighbourWires x = rowOf(0);
        Due.due("sent(-1) of none", x.sent(-1), -1);
        Due.due("sent(0) of none", x.sent(0), -1);
    }

    static void promise13AFullRow() {
        NeighbourWires x = Due.told("wires 8;step 100 1 40;", 2);
        int[] due = {-1, 100, 101, 138, 139, -1};
        int[] at = {-1, 0, 1, 38, 39, 40};
        for (int i = 0; i < at.length; i++) {
            Due.due("sent(" + at[i] + ")", x.sent(at[i]), due[i]);
        }
    }

    static void promise13WordsThatWereThereAreGone() {
        NeighbourWires x = rowOf(40);
        x.empty();
        x.send(5);
        Due.due("sent(0)", x.sent(0), 5);
        Due.due("sent(1)", x.sent(1), -1);
        Due.due("sent(39)", x.sent(39), -1);
    }

    // ---- promise 14: row

    static void promise14WhatIsAsked() {
        int[] whats = {0, 1, 2, 3, 4, 10, 11, 12, 13, 14};
        int[] due = {39, 4, 2, 6, 1, 0, 0, 1, 0, 1};
        for (int i = 0; i < whats.length; i++) {
            int what = whats[i];
            Edge.keeps("row(" + what + ")", () -> Due.told("own 4;send 10 5;", 2), x -> x.row(what), due[i]);
        }
        int[] outside = {-1, 5, 6, 8, 9, 15, 16, Edge.MIN, Edge.MAX};
        for (int what : outside) {
            Edge.keeps("row(" + what + ")", Edge::furnished, x -> x.row(what), -1);
            Edge.keeps("row(" + what + ") of none", NeighbourWires::new, x -> x.row(what), -1);
        }
    }

    private static void rowIs(NeighbourWires x, int... due) {
        int[] whats = {0, 1, 2, 3, 4, 10, 11, 12, 13, 14};
        for (int i = 0; i < due.length; i++) {
            Due.due("row(" + whats[i] + ")", x.row(whats[i]), due[i]);
        }
    }

    static void promise14AnEmptyRow() {
        rowIs(new NeighbourWires(), 0, 0, 0, 0, -4, 0, 0, 0, 0, 0);
        NeighbourWires x = Due.told("send 10 5;", 1);
        x.empty();
        rowIs(x, 0, 0, 0, 0, -4, 0, 0, 0, 0, 0);
        rowIs(Due.told("send 0;", 1), 0, 0, 0, 0, 0, 1, 0, 0, 0, 0);
        rowIs(Due.told("send 1;", 1), 2, 1, 1, 1, 0, 0, 1, 0, 0, 0);
    }

    static void promise14TheFirstWithTheGreatestSlow() {
        NeighbourWires x = Due.told("send 0 0 1 3 2 0;", 1);
        int[] first = {0, 0, 2, 3, 3, 3};
        for (int last = 5; last >= 0; last--) {
            NeighbourWires y = new NeighbourWires();
            for (int i = 0; i <= last; i++) {
                y.send(x.sent(i));
            }
            Due.due("row(4) of " + (last + 1), y.row(4), first[last]);
        }
        Due.due("of several the first", Due.told("send 2 0 2 0;", 1).row(4), 0);
        Due.due("none slow at all", Due.told("send 15 0 15;", 1).row(4), 0);
    }

    static void promise14TheFirstChangeIsFromWord0() {
        rowIs(Due.told("send 15;", 1), 4, 0, 0, 4, 0, 1);
        rowIs(Due.told("send 2 2;", 1), 3, 2, 1, 1, 0, 1, 0, 1);
    }

    static void promise14ARowOf40() {
        NeighbourWires x = Due.told("wires 8;own 99;side 99;step 85 85 1;", 4);
        for (int i = 1; i < 40; i++) {
            x.send((i & 1) == 0 ? 85 : 170);
        }
        int cost = 99 * (4 + 7) + 39 * 99 * (8 + 28);
        rowIs(x, cost, 4, 2, 4 + 39 * 8, 1, 0, 0, 1, 0, 39);
        x = Due.told("step 0 0 39;send 2;", 2);
        rowIs(x, 3, 2, 1, 1, 39, 39, 0, 1, 0, 0);
    }

    static void promise14AsManyChangesAsWords() {
        int[] lengths = {0, 1, 2, 39, 40};
        for (int length : lengths) {
            NeighbourWires x = new NeighbourWires();
            for (int i = 0; i < length; i++) {
                x.send(i * 7 & 15);
            }
            int changes = 0;
            for (int slow = 0; slow <= 4; slow++) {
                changes += x.row(10 + slow);
            }
            Due.due("CHANGES of " + length + " WORDS", changes, length);
        }
    }

    static void promise14SlowOfEachSize() {
        NeighbourWires x = Due.told("wires 3;send 7 6 4 3 5 2;", 2);
        rowIs(x, 3 + 2 + 3 + 7 + 7 + 11, 4, 1, 3 + 1 + 1 + 3 + 2 + 3, 5, 1, 1, 2, 1, 1);
    }

    // ---- promise 15: best

    static void promise15WhatIsAsked() {
        Edge.answers("best", () -> Due.told("wires 3;own 0;send 5;", 3), 0, NeighbourWires::best, 1, 21);
        Edge.answers("best of none", NeighbourWires::new, 0, NeighbourWires::best, 0, 123);
    }

    static void promise15OrderAndShieldsStay() {
        NeighbourWires plain = Due.told("wires 5; own 7; side 9; send 3 31 0 21;", 4);
        int cost = plain.best(0);
        int figures = plain.best(1);
        Edge.keeps("best(0)", Edge::furnished, x -> x.best(0), cost);
        Edge.keeps("best(1)", Edge::furnished, x -> x.best(1), figures);
        Due.due("its ORDER is taken", plain.order(figures), 1);
        Due.due("and costs as much", plain.row(0), cost);
    }

    static void promise15ShieldsDoNotCount() {
        NeighbourWires x = Due.told("wires 2;send 1 2;", 2);
        Due.due("best(0)", x.best(0), 2 + 6);
        x.shield(0, true);
        Due.due("row(0)", x.row(0), 2 + 4);
        Due.due("best(0) with a shield", x.best(0), 2 + 6);
    }

    static void promise15OfSeveralTheLeast() {
        for (int n = 2; n <= 8; n++) {
            NeighbourWires x = Edge.wired(n);
            int numbers = 1234567 / (int) Math.pow(10, 8 - n);
            Due.due("an empty row: best(0)", x.best(0), 0);
            Due.due("an empty row: best(1)", x.best(1), numbers);
            x.send((1 << n) - 1);
            Due.due("all alike: best(0)", x.best(0), n);
            Due.due("all alike: best(1)", x.best(1), numbers);
            x.empty();
            x.send(1);
            Due.due("one at a side: best(0)", x.best(0), 2);
            Due.due("one at a side: best(1)", x.best(1), numbers);
        }
        Due.due("SIDE 0", Due.told("side 0;send 5 10 9;", 2).best(1), 123);
        Due.due("SIDE 1", Due.told("side 1;send 5;", 2).best(1), 213);
        Due.due("OWN 0, SIDE 0", Due.told("own 0;side 0;send 5 10;", 3).best(0), 0);
    }

    static void promise15TheFirstPlaceIsNotAlwaysThatOfWire0() {
        NeighbourWires x = Due.told("wires 3;send 2 4;", 2);
        Due.due("best(0)", x.best(0), 3 + 3);
        Due.due("best(1)", x.best(1), 102);
        x.order(102);
        Due.due("row(0)", x.row(0), 6);
        x.order(21);
        Due.due("row(0)", x.row(0), 9);
    }

    static void promise15TheMostWiresAndTheLongestRow() {
        NeighbourWires x = Due.told("wires 8;own 99;side 99;send 85;", 4);
        for (int i = 1; i < 40; i++) {
            x.send((i & 1) == 0 ? 85 : 170);
        }
        Due.due("best(0)", x.best(0), 99 * (4 + 1) + 39 * 99 * (8 + 4));
        Due.due("best(1)", x.best(1), 2461357);
    }

    static void promise15NeverTurned() {
        NeighbourWires x = Due.told("wires 2;send 3 0;", 2);
        Due.due("best(0)", x.best(0), 4);
        Due.due("best(1)", x.best(1), 1);
    }

    // ---- promise 16: shields

    private static NeighbourWires fiveAgainst() {
        return Due.told("wires 5;send 10 21;", 2);
    }

    static void promise16SlowFrom0To4() {
        Edge.answers("shields(.., 0)", RowEdgesTest::fiveAgainst, 0, (x, v) -> x.shields(v, 0), -4, -4, 4, 2, 0);
        Edge.answers("shields(.., 1)", RowEdgesTest::fiveAgainst, 0, (x, v) -> x.shields(v, 1), -4, -4, 15, 5, 0);
    }

    static void promise16WhatIsAsked() {
        Edge.answers("shields(3, ..)", RowEdgesTest::fiveAgainst, 0, (x, v) -> x.shields(3, v), 2, 5);
        Edge.answers("shields(1, ..)", RowEdgesTest::fiveAgainst, 0, (x, v) -> x.shields(1, v), -4, -4);
        Edge.answers("shields(4, ..)", RowEdgesTest::fiveAgainst, 0, (x, v) -> x.shields(4, v), 0, 0);
    }

    static void promise16NotAboveK() {
        NeighbourWires x = Due.told("wires 2;send 1 2;", 2);
        Due.due("a SLOW of 2: shields(2, 0)", x.shields(2, 0), 0);
        Due.due("shields(1, 0)", x.shields(1, 0), 1);
        Due.due("shields(1, 1)", x.shields(1, 1), 1);
        Due.due("not even with all: shields(0, 0)", x.shields(0, 0), -4);
        Due.due("shields(0, 1)", x.shields(0, 1), -4);
        x = Due.told("wires 2;send 3;", 2);
        Due.due("a SLOW of 0: shields(0, 0)", x.shields(0, 0), 0);
        Due.due("shields(0, 1)", x.shields(0, 1), 0);
    }

    static void promise16NoChangeOfTheRow() {
        NeighbourWires x = Due.told("step 15 0 38;", 1);
        Due.due("shields(2, 0) of 38", x.shields(2, 0), 0);
        x.send(5);
        Due.due("shields(2, 0) of 39", x.shields(2, 0), 0);
        Due.due("shields(1, 0) of 39", x.shields(1, 0), -4);
        x.send(10);
        Due.due("shields(3, 0) of 40", x.shields(3, 0), 1);
        Due.due("shields(2, 0) of 40", x.shields(2, 0), 3);
        x = Due.told("send 15 3 2;", 1);
        Due.due("no CHANGE back to 0: shields(1, 0)", x.shields(1, 0), 0);
        Due.due("no CHANGE back to 0: shields(0, 0)", x.shields(0, 0), -4);
        x = Due.told("send 0;", 1);
        x.empty();
        x.send(4);
        Due.due("from WORD 0 on: shields(1, 0)", x.shields(1, 0), -4);
        Due.due("from WORD 0 on: shields(2, 0)", x.shields(2, 0), 0);
    }

    static void promise16AnEmptyRow() {
        Edge.answers("shields(.., 0) of none", NeighbourWires::new, 0, (x, v) -> x.shields(v, 0), 0, 0, 0, 0, 0);
        Edge.answers("shields(.., 1) of none", NeighbourWires::new, 0, (x, v) -> x.shields(v, 1), 0, 0, 0, 0, 0);
    }

    static void promise16OfSeveralTheLeastGaps() {
        NeighbourWires x = Due.told("wires 3;send 2 5;", 2);
        Due.due("gap 0 or gap 1: shields(3, 0)", x.shields(3, 0), 1);
        Due.due("gap 0 or gap 1: shields(3, 1)", x.shields(3, 1), 1);
        x = Due.told("send 10 5;", 1);
        Due.due("gap 1 alone: shields(3, 1)", x.shields(3, 1), 2);
        x = Due.told("wires 8;send 85 170;", 2);
        Due.due("every other gap: shields(3, 0)", x.shields(3, 0), 3);
        Due.due("every other gap: shields(3, 1)", x.shields(3, 1), 42);
    }

    static void promise16FewerMayBeBetterThanAll() {
        NeighbourWires x = Due.told("wires 3;send 1 6;", 2);
        Due.due("shields(2, 0)", x.shields(2, 0), 0);
        Due.due("gap 0 alone: shields(1, 0)", x.shields(1, 0), 1);
        Due.due("gap 0 alone: shields(1, 1)", x.shields(1, 1), 1);
        Due.due("shields(0, 0)", x.shields(0, 0), -4);
    }

    static void promise16ShieldsThatAreThereDoNotCount() {
        NeighbourWires x = fiveAgainst();
        for (int g = 0; g <= 3; g++) {
            x.shield(g, true);
        }
        int[] many = {-4, -4, 4, 2, 0};
        for (int k = 0; k <= 4; k++) {
            Due.due("shields(" + k + ", 0)", x.shields(k, 0), many[k]);
        }
        Due.due("they stay", x.count(3), 4);
    }

    static void promise16AsOrderIs() {
        NeighbourWires x = Due.told("wires 3;send 2 5;", 2);
        x.order(21);
        Due.due("shields(0, 0)", x.shields(0, 0), -4);
        Due.due("shields(1, 0)", x.shields(1, 0), 1);
        Due.due("shields(1, 1)", x.shields(1, 1), 2);
        Due.due("shields(2, 0)", x.shields(2, 0), 0);
    }

    // ---- promise 17: turned

    private static void turnedIs(NeighbourWires x, int way, int... due) {
        for (int what = 0; what < due.length; what++) {
            Due.due("turned(" + way + ", " + what + ")", x.turned(way, what), due[what]);
        }
    }

    private static NeighbourWires twoTurned() {
        return Due.told("own 3;send 15 0 15;", 2);
    }

    static void promise17Ways() {
        Edge.answers("turned(.., 0)", RowEdgesTest::twoTurned, 0, (x, v) -> x.turned(v, 0), 39, 12, 12, 12);
        Edge.answers("turned(.., 1)", RowEdgesTest::twoTurned, 0, (x, v) -> x.turned(v, 1), 0, 2, 2, 2);
    }

    static void promise17WhatIsAsked() {
        Edge.answers("turned(0, ..)", RowEdgesTest::twoTurned, 0, (x, v) -> x.turned(0, v), 39, 0, -4, 1);
        for (int way = 1; way <= 3; way++) {
            int w = way;
            Edge.answers("turned(" + w + ", ..)", RowEdgesTest::twoTurned, 0, (x, v) -> x.turned(w, v), 12, 2, 0, 1);
        }
    }

    static void promise17AnEmptyRow() {
        for (int way = 0; way <= 3; way++) {
            turnedIs(new NeighbourWires(), way, 0, 0, -4, 0);
            turnedIs(Due.told("send 0;", 1), way, 0, 0, -4, 0);
        }
    }

    static void promise17TheFirstThatIsTurned() {
        turnedIs(Due.told("send 0 0 15;", 1), 1, 2, 1, 2, 1);
        turnedIs(Due.told("send 15 0 0;", 1), 1, 4, 1, 0, 1);
        turnedIs(Due.told("step 0 0 39;", 1), 1, 0, 0, -4, 0);
        turnedIs(Due.told("step 0 0 39;send 15;", 2), 1, 2, 1, 39, 1);
    }

    static void promise17MoreThanHalfAreTurned() {
        for (int n = 2; n <= 8; n++) {
            for (int moves = 0; moves <= n; moves++) {
                NeighbourWires x = Due.told("wires " + n + ";send " + ((1 << moves) - 1) + ";", 2);
                Due.due("n " + n + ", " + moves + " would move", x.turned(1, 1), 2 * moves > n ? 1 : 0);
            }
        }
        Due.due("half of them", Due.told("send 3;", 1).turned(1, 1), 0);
        Due.due("more", Due.told("send 7;", 1).turned(1, 1), 1);
        Due.due("less than half", Due.told("wires 5;send 3;", 2).turned(1, 1), 0);
        Due.due("more", Due.told("wires 5;send 7;", 2).turned(1, 1), 1);
    }

    static void promise17OfTheWiresWithoutTheOneMore() {
        turnedIs(Due.told("own 1;side 0;send 15 3;", 3), 1, 1 + 3, 1, 0);
        turnedIs(Due.told("own 1;side 0;send 15 7;", 3), 1, 1 + 1, 2, 0);
    }

    static void promise17ByWhatLiesOnThem() {
        turnedIs(Due.told("own 1;side 0;send 15 8;", 3), 1, 1 + 2, 1, 0);
        turnedIs(Due.told("own 1;side 0;send 15 0;", 3), 1, 1 + 1, 1, 0);
        turnedIs(Due.told("own 1;side 0;send 3 7;", 3), 1, 2 + 1, 0, -4);
        turnedIs(Due.told("own 1;side 0;send 3 12;", 3), 1, 2 + 1, 1, 1);
    }

    static void promise17TurnedIfItCostsLess() {
        for (int n = 2; n <= 8; n++) {
            for (int moves = 0; moves <= n; moves++) {
                NeighbourWires x = Due.told("wires " + n + ";side 0;send " + ((1 << moves) - 1) + ";", 3);
                int turned = n - moves + 1;
                for (int way = 2; way <= 3; way++) {
                    Due.due("n " + n + ": COST", x.turned(way, 0), Math.min(moves, turned));
                    Due.due("n " + n + ", " + moves + " would move", x.turned(way, 1), turned < moves ? 1 : 0);
                }
            }
        }
        Due.due("as much", Due.told("wires 3;side 0;send 3;", 3).turned(2, 1), 0);
        Due.due("less", Due.told("wires 3;side 0;send 7;", 3).turned(2, 1), 1);
    }

    static void promise17OfSeveralNotTurnedAsEarlyAsMayBe() {
        for (int way = 2; way <= 3; way++) {
            turnedIs(Due.told("own 0;side 0;send 15 0 15;", 3), way, 0, 0, -4);
            turnedIs(Due.told("wires 3;side 0;send 3 4 7;", 3), way, 2 + 1 + 2, 1, 1);
            turnedIs(Due.told("wires 3;side 0;send 7 4;", 3), way, 1 + 2, 1, 0);
            turnedIs(Due.told("wires 3;side 0;send 3 4 4 4;", 3), way, 2 + 1, 3, 1);
        }
    }

    static void promise17NoShieldAtTheOneMore() {
        NeighbourWires x = Due.told("wires 3;own 0;shield 0;shield 1;send 3;", 5);
        turnedIs(x, 0, 3, 0, -4, 2);
        turnedIs(x, 1, 1, 1, 0, 1);
        x = Due.told("wires 2;own 0;shield 0;send 2;", 4);
        turnedIs(x, 0, 2, 0, -4, 2);
    }

    static void promise17BesideTheLastPlace() {
        NeighbourWires x = Due.told("own 0;send 8;", 2);
        turnedIs(x, 0, 2, 0, -4, 2);
        x.order(3012);
        turnedIs(x, 0, 1, 0, -4, 1);
        x.order(132);
        turnedIs(x, 0, 2, 0, -4, 2);
        x.order(123);
        turnedIs(x, 0, 2, 0, -4, 2);
    }

    static void promise17TheLongestRow() {
        NeighbourWires x = Due.told("wires 8;own 99;side 99;send 255;", 4);
        for (int i = 1; i < 40; i++) {
            x.send((i & 1) == 0 ? 255 : 0);
        }
        turnedIs(x, 0, 40 * (8 * 99 + 99), 0, -4, 1);
        for (int way = 1; way <= 3; way++) {
            turnedIs(x, way, 40 * (99 + 99), 20, 0, 1);
        }
    }

    static void promise17NothingChanges() {
        for (int way = 0; way <= 3; way++) {
            int w = way;
            int count = Edge.furnished().turned(way, 1);
            Edge.keeps("turned(" + way + ", 1)", Edge::furnished, x -> x.turned(w, 1), count);
        }
        Edge.keeps("turned(4, 0)", Edge::furnished, x -> x.turned(4, 0), -1);
        Edge.keeps("turned(3, 4)", Edge::furnished, x -> x.turned(3, 4), -1);
        Edge.keeps("turned(-1, -1)", Edge::furnished, x -> x.turned(-1, -1), -1);
    }
}
