/** The boundaries that promises 6 to 10 name, and one step to each side of them. */
public final class WiresEdgesTest {
    private static final int COST = 0, SLOW = 1, NOISE = 2, MOVES = 3;

    public static void main(String[] args) throws ReflectiveOperationException {
        Edge.run(WiresEdgesTest.class, 6, 10);
    }

    // ---- promise 6: order

    private static void orderIs(NeighbourWires x, int... wires) {
        for (int place = 0; place < wires.length; place++) {
            Due.due("at(" + place + ", 0)", x.at(place, 0), wires[place]);
        }
    }

    private static void refusedOrders(String text, int... figures) {
        for (int f : figures) {
            Edge.keeps("order(" + f + ")", () -> Due.told(text, 1), x -> x.order(f), -1);
        }
    }

    /** 0123.. or its reverse, of so many figures. */
    private static int figures(int n, boolean rising) {
        int figures = 0;
        for (int i = 0; i < n; i++) {
            figures = figures * 10 + (rising ? i : n - 1 - i);
        }
        return figures;
    }

    static void promise06AsManyFiguresAsWires() {
        for (int n = 2; n <= 8; n++) {
            NeighbourWires x = Edge.wired(n);
            int falling = figures(n, false);
            Due.due("order(" + falling + ")", x.order(falling), 1);
            for (int place = 0; place < n; place++) {
                Due.due("at(" + place + ", 0)", x.at(place, 0), n - 1 - place);
            }
            int more = figures(n + 1, false);
            int fewer = figures(n, false) / 100;
            refusedOrders("wires " + n + ";", more, fewer, figures(n - 1, true), figures(n + 1, true));
        }
    }

    static void promise06AZeroMayBeTheFirst() {
        for (int n = 2; n <= 8; n++) {
            NeighbourWires x = Edge.wired(n);
            x.order(figures(n, false));
            Due.due("order by numbers", x.order(figures(n, true)), 1);
            Due.due("at(0, 0)", x.at(0, 0), 0);
            Due.due("at(1, 0)", x.at(1, 0), 1);
        }
        NeighbourWires x = new NeighbourWires();
        Due.due("order(321)", x.order(321), 1);
        orderIs(x, 0, 3, 2, 1);
        Due.due("order(3021)", x.order(3021), 1);
        orderIs(x, 3, 0, 2, 1);
        refusedOrders("wires 4;", 32, 12, 21, 3, 1, 0);
        refusedOrders("wires 2;", 0, 2, 11, 100, 12);
    }

    static void promise06EachOnce() {
        refusedOrders("wires 4;", 3211, 3212, 3213, 3321, 2210, 0, 1111, 112);
        refusedOrders("wires 8;", 76543211, 77654321, 7654320, 11111111);
    }

    static void promise06WiresAlone() {
        refusedOrders("wires 4;", 3214, 4321, 4210, 4012, 9210, 5);
        refusedOrders("wires 8;", 76543218, 86543210, 98765432);
        refusedOrders("wires 7;", 7543210, 6543217);
        NeighbourWires x = Edge.wired(7);
        Due.due("order(6543210)", x.order(6543210), 1);
    }

    static void promise06NumbersThatAreNoFigures() {
        refusedOrders("wires 4;", -3210, -123, -1, Edge.MIN, Edge.MAX, 13210, 32100, 1000000123);
        refusedOrders("wires 8;", -76543210, Edge.MIN, Edge.MAX, 176543210, 765432100, 1976543210);
    }

    static void promise06OnlyTheOrderChanges() {
        Edge.changesOnly("order(12340)", Edge::furnished, x -> x.order(12340), 1, "at(0, 0)", "at(1, 0)", "at(2, 0)",
            "at(3, 0)", "at(4, 0)");
        Edge.keeps("order(31420)", Edge::furnished, x -> x.order(31420), 1);
        Edge.keeps("order(31421)", Edge::furnished, x -> x.order(31421), -1);
    }

    // ---- promise 7: shield

    static void promise07GapsBetweenPlaces() {
        for (int n = 2; n <= 8; n++) {
            int last = n - 2;
            int wires = n;
            int[] outside = {-1, n - 1, n, 31, 32, Edge.MIN, Edge.MAX};
            for (int g : outside) {
                Edge.keeps("n " + n + ": shield(" + g + ", true)", () -> Edge.wired(wires), x -> x.shield(g, true), -1);
                Edge.keeps("n " + n + ": shield(" + g + ", false)", () -> Edge.wired(wires), x -> x.shield(g, false), -1);
            }
            NeighbourWires x = Edge.wired(n);
            Due.due("shield(0, true)", x.shield(0, true), 0);
            Due.due("at(0, 1)", x.at(0, 1), 1);
            Due.due("shield(last, true)", x.shield(last, true), n == 2 ? 1 : 0);
            Due.due("at(last, 1)", x.at(last, 1), 1);
            Due.due("count(3)", x.count(3), n == 2 ? 1 : 2);
        }
    }

    static void promise07WhetherItHad() {
        NeighbourWires x = new NeighbourWires();
        boolean[] is = {false, true, true, false, false, true};
        int[] had = {0, 0, 1, 1, 0, 0};
        for (int i = 0; i < is.length; i++) {
            Due.due("shield(1, " + is[i] + ")", x.shield(1, is[i]), had[i]);
            Due.due("count(3)", x.count(3), is[i] ? 1 : 0);
        }
        Due.due("shield(0, false)", x.shield(0, false), 0);
        Due.due("shield(2, false)", x.shield(2, false), 0);
    }

    static void promise07OnlyThatGapChanges() {
        Edge.changesOnly("shield(0, true)", Edge::furnished, x -> x.shield(0, true), 0, "count(3)", "at(0, 1)");
        Edge.changesOnly("shield(3, false)", Edge::furnished, x -> x.shield(3, false), 1, "count(3)", "at(3, 1)");
        Edge.keeps("shield(3, true)", Edge::furnished, x -> x.shield(3, true), 1);
        Edge.keeps("shield(2, false)", Edge::furnished, x -> x.shield(2, false), 0);
        Edge.keeps("shield(4, true)", Edge::furnished, x -> x.shield(4, true), -1);
    }

    // ---- promise 8: at

    static void promise08Places() {
        Edge.answers("at(.., 0)", Edge::furnished, 0, (x, v) -> x.at(v, 0), 3, 1, 4, 2, 0);
        Edge.answers("at(.., 1)", Edge::furnished, 0, (x, v) -> x.at(v, 1), 0, 1, 0, 1, 0);
        for (int n = 2; n <= 8; n++) {
            NeighbourWires x = Edge.wired(n);
            Due.due("at(n - 1, 0)", x.at(n - 1, 0), n - 1);
            Due.due("at(n, 0)", x.at(n, 0), -1);
            Due.due("at(n, 1)", x.at(n, 1), -1);
        }
    }

    static void promise08TheLastPlaceHasNoGapBehindIt() {
        for (int n = 2; n <= 8; n++) {
            NeighbourWires x = Edge.wired(n);
            for (int g = 0; g <= n - 2; g++) {
                x.shield(g, true);
            }
            Due.due("at(n - 2, 1)", x.at(n - 2, 1), 1);
            Due.due("at(n - 1, 1)", x.at(n - 1, 1), 0);
            Due.due("at(n, 1)", x.at(n, 1), -1);
        }
    }

    static void promise08WhatIsAsked() {
        Edge.answers("at(1, ..)", Edge::furnished, 0, (x, v) -> x.at(1, v), 1, 1);
        Edge.answers("at(4, ..)", Edge::furnished, 0, (x, v) -> x.at(4, v), 0, 0);
    }

    // ---- promise 9: change

    private static void changeIs(NeighbourWires x, int from, int to, int cost, int slow, int noise, int moves) {
        int[] due = {cost, slow, noise, moves};
        for (int what = COST; what <= MOVES; what++) {
            Due.due("change(" + from + ", " + to + ", " + what + ")", x.change(from, to, what), due[what]);
        }
    }

    static void promise09Words() {
        for (int n = 2; n <= 8; n++) {
            int last = (1 << n) - 1;
            int wires = n;
            Edge.outside("n " + n + ": change(.., 0, 0)", () -> Edge.wired(wires), 0, last, -1, (x, v) -> x.change(v, 0, 0));
            Edge.outside("n " + n + ": change(0, .., 3)", () -> Edge.wired(wires), 0, last, -1, (x, v) -> x.change(0, v, 3));
            NeighbourWires x = Edge.wired(n);
            changeIs(x, 0, last, n, 0, 0, n);
            changeIs(x, last, 0, n, 0, 0, n);
            changeIs(x, last, last, 0, 0, 0, 0);
            changeIs(x, 0, 1, 2, 1, 1, 1);
            changeIs(x, last, last - 1, 2, 1, 1, 1);
        }
    }

    static void promise09WhatIsAsked() {
        Edge.answers("change(0, 31, ..)", Edge::furnished, 0, (x, v) -> x.change(0, 31, v), 71, 1, 0, 5);
        Edge.answers("change(9, 9, ..)", Edge::furnished, 0, (x, v) -> x.change(9, 9, v), 0, 0, 0, 0);
        Edge.keeps("change(32, 0, 4)", Edge::furnished, x -> x.change(32, 0, 4), -1);
    }

    static void promise09OwnAndSideFrom0To99() {
        int[] prices = {0, 1, 98, 99};
        for (int own : prices) {
            for (int side : prices) {
                NeighbourWires x = Due.told("wires 8;own " + own + ";side " + side + ";", 3);
                Due.due("all against all", x.change(85, 170, COST), 8 * own + 28 * side);
                Due.due("one moves at the side", x.change(0, 128, COST), own + side);
                Due.due("one moves within", x.change(0, 64, COST), own + 2 * side);
                Due.due("none moves", x.change(85, 85, COST), 0);
            }
        }
    }

    static void promise09AgainstIsWithoutSign() {
        NeighbourWires x = Due.told("wires 2;own 0;", 2);
        int[][] against = {{0, 1, 1, 0}, {1, 0, 4, 1}, {1, 4, 0, 1}, {0, 1, 1, 0}};
        int[][] slow = {{0, 1, 1, 0}, {1, 0, 2, 1}, {1, 2, 0, 1}, {0, 1, 1, 0}};
        for (int from = 0; from < 4; from++) {
            for (int to = 0; to < 4; to++) {
                Due.due("AGAINST squared " + from + " to " + to, x.change(from, to, COST), against[from][to]);
                Due.due("SLOW " + from + " to " + to, x.change(from, to, SLOW), slow[from][to]);
            }
        }
    }

    static void promise09BesideAShieldItsMoveCounts() {
        NeighbourWires x = Due.told("wires 2;own 0;shield 0;", 3);
        int[][] cost = {{0, 1, 1, 2}, {1, 0, 2, 1}, {1, 2, 0, 1}, {2, 1, 1, 0}};
        for (int from = 0; from < 4; from++) {
            for (int to = 0; to < 4; to++) {
                Due.due("COST " + from + " to " + to, x.change(from, to, COST), cost[from][to]);
                Due.due("SLOW " + from + " to " + to, x.change(from, to, SLOW), from == to ? 0 : 1);
            }
        }
    }

    static void promise09SlowOfEachSizeFromNoneTo4() {
        NeighbourWires x = Edge.wired(3);
        Due.due("all move alike", x.change(0, 7, SLOW), 0);
        Due.due("a still one beside it", x.change(0, 1, SLOW), 1);
        Due.due("still ones on both sides", x.change(0, 2, SLOW), 2);
        Due.due("one against it, one still", x.change(1, 2, SLOW), 3);
        Due.due("both against it", x.change(5, 2, SLOW), 4);
        Due.due("one alike, one against it", x.change(4, 3, SLOW), 2);
    }

    static void promise09BeyondTheOuterPlacesIsNothing() {
        for (int n = 2; n <= 8; n++) {
            NeighbourWires x = Edge.wired(n);
            int last = 1 << n - 1;
            Due.due("the first alone", x.change(0, 1, SLOW), 1);
            Due.due("the last alone", x.change(0, last, SLOW), 1);
            Due.due("the first alone: COST", x.change(0, 1, COST), 2);
            Due.due("the last alone: COST", x.change(0, last, COST), 2);
            Due.due("the last but one alone", x.change(0, last >> 1, SLOW), n == 2 ? 1 : 2);
        }
    }

    static void promise09NoiseIsTheSumWithoutSign() {
        NeighbourWires x = Edge.wired(3);
        Due.due("none moves", x.change(2, 2, NOISE), 0);
        Due.due("one rises", x.change(0, 1, NOISE), 1);
        Due.due("one falls", x.change(1, 0, NOISE), 1);
        Due.due("both rise", x.change(0, 5, NOISE), 2);
        Due.due("both fall", x.change(5, 0, NOISE), 2);
        Due.due("one rises, one falls", x.change(1, 4, NOISE), 0);
        Due.due("one falls, one rises", x.change(4, 1, NOISE), 0);
    }

    static void promise09NoiseOfWiresThatStandStillAlone() {
        NeighbourWires x = Edge.wired(3);
        Due.due("all move", x.change(0, 7, NOISE), 0);
        Due.due("all move against one another", x.change(5, 2, NOISE), 0);
        Due.due("the outer one stands still", x.change(0, 6, NOISE), 1);
        Due.due("only a neighbour's moves count", Edge.wired(4).change(0, 12, NOISE), 1);
        Due.due("the greatest of several", Edge.wired(5).change(0, 20, NOISE), 2);
    }

    static void promise09NoNoiseOverAShield() {
        NeighbourWires x = Due.told("wires 3;shield 0;", 2);
        Due.due("from the left: a shield", x.change(0, 1, NOISE), 0);
        Due.due("from the right", x.change(0, 4, NOISE), 1);
        Due.due("from both", x.change(0, 5, NOISE), 1);
        Due.due("the two do not meet", x.change(1, 4, NOISE), 1);
        x.shield(1, true);
        Due.due("from both: two shields", x.change(0, 5, NOISE), 0);
        x.shield(0, false);
        Due.due("from the left", x.change(0, 1, NOISE), 1);
        Due.due("from the right: a shield", x.change(0, 4, NOISE), 0);
        Due.due("the outer one behind a shield", x.change(0, 2, NOISE), 1);
    }

    static void promise09ShieldsOfAllGapsAndOfNone() {
        NeighbourWires x = Due.told("wires 8;own 0;", 2);
        changeIs(x, 0, 255, 0, 0, 0, 8);
        for (int g = 0; g <= 6; g++) {
            x.shield(g, true);
        }
        changeIs(x, 0, 255, 14, 2, 0, 8);
        changeIs(x, 85, 170, 14, 2, 0, 8);
        changeIs(x, 0, 1, 1, 1, 0, 1);
        changeIs(x, 0, 128, 1, 1, 0, 1);
    }

    // ---- promise 10: slow

    static void promise10Wires() {
        Edge.answers("slow(10, 21, ..)", () -> Edge.wired(5), 0, (x, v) -> x.slow(10, 21, v), 2, 4, 4, 4, 2);
        for (int n = 2; n <= 8; n++) {
            NeighbourWires x = Edge.wired(n);
            Due.due("slow(0, 1, 0)", x.slow(0, 1, 0), 1);
            Due.due("slow of the last wire", x.slow(0, 1 << n - 1, n - 1), 1);
            Due.due("slow(0, 1, n)", x.slow(0, 1, n), -1);
            Due.due("slow(0, 1, -1)", x.slow(0, 1, -1), -1);
        }
    }

    static void promise10Words() {
        for (int n = 2; n <= 8; n++) {
            int last = (1 << n) - 1;
            int wires = n;
            Edge.outside("n " + n + ": slow(.., 0, 0)", () -> Edge.wired(wires), 0, last, -1, (x, v) -> x.slow(v, 0, 0));
            Edge.outside("n " + n + ": slow(0, .., 0)", () -> Edge.wired(wires), 0, last, -1, (x, v) -> x.slow(0, v, 0));
            NeighbourWires x = Edge.wired(n);
            Due.due("slow(last, 0, 0)", x.slow(last, 0, 0), 0);
            Due.due("slow(last, last - 1, 0)", x.slow(last, last - 1, 0), 1);
            Due.due("slow(last - 1, last, 0)", x.slow(last - 1, last, 0), 1);
        }
    }

    static void promise10OneThatStandsStill() {
        NeighbourWires x = Edge.wired(3);
        Due.due("slow(0, 5, 1)", x.slow(0, 5, 1), 0);
        Due.due("slow(0, 7, 1)", x.slow(0, 7, 1), 0);
        Due.due("slow(0, 2, 1)", x.slow(0, 2, 1), 2);
        Due.due("slow(6, 6, 1)", x.slow(6, 6, 1), 0);
        x.shield(0, true);
        Due.due("beside a shield: slow(0, 5, 1)", x.slow(0, 5, 1), 0);
        Due.due("beside a shield: slow(0, 7, 1)", x.slow(0, 7, 1), 1);
        Due.due("beside a shield: slow(0, 7, 0)", x.slow(0, 7, 0), 1);
        Due.due("beside none: slow(0, 7, 2)", x.slow(0, 7, 2), 0);
    }

    static void promise10ByTheOrder() {
        Edge.answers("slow(0, 9, ..)", Edge::furnished, 0, (x, v) -> x.slow(0, 9, v), 1, 0, 0, 1, 0);
        Edge.answers("slow(1, 4, ..)", Edge::furnished, 0, (x, v) -> x.slow(1, 4, v), 1, 0, 2, 0, 0);
        Edge.answers("slow(16, 4, ..)", Edge::furnished, 0, (x, v) -> x.slow(16, 4, v), 0, 0, 3, 0, 3);
    }
}
