/** The boundaries that promises 1 to 5 name, and one step to each side of them. */
public final class TextEdgesTest {
    public static void main(String[] args) throws ReflectiveOperationException {
        Edge.run(TextEdgesTest.class, 1, 5);
    }

    // ---- promise 1: a new object

    static void promise01FourWiresByNumbersAtFirst() {
        NeighbourWires x = new NeighbourWires();
        Due.due("count(0)", x.count(0), 4);
        int[] wires = {-1, 0, 1, 2, 3, -1};
        int[] shields = {-1, 0, 0, 0, 0, -1};
        for (int place = -1; place <= 4; place++) {
            Due.due("at(" + place + ", 0)", x.at(place, 0), wires[place + 1]);
            Due.due("at(" + place + ", 1)", x.at(place, 1), shields[place + 1]);
        }
        Due.due("count(3)", x.count(3), 0);
        Due.due("shield(3, true)", x.shield(3, true), -1);
        Due.due("shield(2, true)", x.shield(2, true), 0);
        Due.due("order(1234)", x.order(1234), -1);
        Due.due("order(123)", x.order(123), 1);
    }

    static void promise01WordsOfFourBitsAtFirst() {
        NeighbourWires x = new NeighbourWires();
        Due.due("send(-1)", x.send(-1), -1);
        Due.due("send(16)", x.send(16), -1);
        Due.due("send(0)", x.send(0), 1);
        Due.due("send(15)", x.send(15), 2);
    }

    static void promise01OwnAndSideAreOneAtFirst() {
        NeighbourWires x = new NeighbourWires();
        Due.due("count(1)", x.count(1), 1);
        Due.due("count(2)", x.count(2), 1);
        Due.due("OWN alone", x.change(0, 15, 0), 4);
        Due.due("OWN and SIDE", x.change(0, 1, 0), 2);
    }

    static void promise01AllWiresLieAt0AndTheRowIsEmptyAtFirst() {
        NeighbourWires x = new NeighbourWires();
        Due.due("count(4)", x.count(4), 0);
        Due.due("sent(0)", x.sent(0), -1);
        Due.due("empty()", x.empty(), 0);
        x.send(0);
        Due.due("WORD 0 moves nothing", x.row(3), 0);
        x.empty();
        x.send(8);
        Due.due("WORD 8 moves one wire", x.row(3), 1);
    }

    static void promise01AnEmptyTapeAtFirst() {
        NeighbourWires x = new NeighbourWires();
        Due.due("count(5)", x.count(5), 0);
        Due.due("end(1)", x.end(1), -1);
        Due.due("end(0)", x.end(0), 0);
        Due.due("text()", x.text(), 0);
        Due.due("feed", x.feed(0L), 8);
    }

    static void promise01SheetsOfNothingAndNoFaultsAtFirst() {
        NeighbourWires x = new NeighbourWires();
        Due.due("fault()", x.fault(), 0);
        Due.due("torn()", x.torn(), 0);
        Due.due("count(6)", x.count(6), -4);
        int[] lays = {-1, -11, -11, -11, -11, -1};
        int[] reads = {-1, 0, 0, 0, 0, -1};
        for (int k = -1; k <= 4; k++) {
            Due.due("lay(" + k + ", 0, 0)", x.lay(k, 0, 0), lays[k + 1]);
            Due.due("read(" + k + ", 0, 0, 1)", x.read(k, 0, 0, 1), reads[k + 1]);
        }
        Due.due("torn()", x.torn(), 1);
    }

    static void promise01TheLastOf512Calls() {
        NeighbourWires x = new NeighbourWires();
        Due.due("call 1", x.feed(Due.eight("wires 8;", 0)), 8);
        Due.due("call 2", x.text(), 1);
        Due.due("call 3", x.send(170), 1);
        for (int call = 4; call <= 510; call += 3) {
            Due.due("call " + call, x.send(85), 2);
            Due.due("call " + (call + 1), x.empty(), 2);
            Due.due("call " + (call + 2), x.send(170), 1);
        }
        int slow = Due.told("wires 8;", 1).bits(3);
        Due.due("call 511", x.count(4), 1);
        Due.due("call 512", x.bits(3), slow);
    }

    // ---- promise 2: feed

    /** A tape of so many bytes, 240 at most, whose text ends within a line or behind one. */
    private static NeighbourWires taped(int bytes) {
        NeighbourWires x = new NeighbourWires();
        Due.feed(x, Edge.times(40, "send9;").substring(0, bytes));
        return x;
    }

    static void promise02FullIsMoreThan240() {
        int[] taken = {0, 1, 224, 231, 232};
        for (int bytes : taken) {
            NeighbourWires x = taped(bytes);
            Due.due("feed behind " + bytes, x.feed(Due.eight("send9;  ", 0)), bytes + 8);
        }
        int[] full = {233, 234, 239, 240};
        for (int bytes : full) {
            Edge.keeps("feed behind " + bytes, () -> taped(bytes), x -> x.feed(0x6F776E2039393B20L), -3);
        }
    }

    static void promise02TheThirtyFirstFeed() {
        NeighbourWires x = new NeighbourWires();
        for (int i = 1; i <= 30; i++) {
            Due.due("feed " + i, x.feed(Due.eight("        ", 0)), 8 * i);
        }
        Due.due("feed 31", x.feed(0L), -3);
        Due.due("text()", x.text(), 0);
        Due.due("a tape that is empty again", x.feed(0L), 8);
    }

    static void promise02ItTakesMoreAfterAnEnd() {
        NeighbourWires x = taped(240);
        Due.due("end(233)", x.end(233), 240);
        Due.due("feed behind 233", x.feed(0L), -3);
        Due.due("end(232)", x.end(232), 233);
        Due.due("feed behind 232", x.feed(0L), 240);
    }

    static void promise02TheHighestByteIsTheFirst() {
        NeighbourWires x = new NeighbourWires();
        Due.due("feed", x.feed(0x73696465_2039383BL), 8);
        Due.due("text()", x.text(), 1);
        Due.due("count(2)", x.count(2), 98);
        Due.due("feed", x.feed(0x6F776E20_31322020L), 8);
        Due.due("feed", x.feed(0x3B206F77_6E202020L), 16);
        Due.due("text(): own for the second time", x.text(), -10 - 10);
    }

    static void promise02AnyEightBytes() {
        long[] eights = {0L, -1L, Long.MIN_VALUE, Long.MAX_VALUE, 0x8020202020202020L, 0xFF20202020202020L};
        for (long v : eights) {
            NeighbourWires x = new NeighbourWires();
            Due.due("feed(" + v + ")", x.feed(v), 8);
            Due.due("text() of " + v, x.text(), -10);
            Due.due("fault() of " + v, x.fault(), 1);
        }
        NeighbourWires x = new NeighbourWires();
        x.feed(0x20202020202020A0L);
        Due.due("the lowest byte is the last", x.text(), -17);
    }

    // ---- promise 3: end

    private static NeighbourWires eightBytes() {
        NeighbourWires x = Edge.furnished();
        x.end(0);
        Due.feed(x, "own 12;x");
        return x;
    }

    static void promise03FromNothingToAllOfThem() {
        int[] kept = {0, 1, 6, 7, 8};
        for (int n : kept) {
            Edge.changesOnly("end(" + n + ")", TextEdgesTest::eightBytes, x -> x.end(n), 8, "count(5)", "tape: ");
            NeighbourWires x = eightBytes();
            x.end(n);
            Due.due("count(5) after end(" + n + ")", x.count(5), n);
        }
        Edge.outside("end", TextEdgesTest::eightBytes, 0, 8, -1, NeighbourWires::end);
    }

    static void promise03TheFirstBytesAreKept() {
        int[] answers = {0, -10, -10, -13, -14, -15, -16, 1, -17};
        for (int n = 0; n <= 8; n++) {
            NeighbourWires x = eightBytes();
            x.end(n);
            Due.due("text() after end(" + n + ")", x.text(), answers[n]);
        }
    }

    static void promise03OfAnEmptyAndOfAFullTape() {
        Edge.answers("end of nothing", NeighbourWires::new, 0, NeighbourWires::end, 0);
        NeighbourWires x = taped(240);
        Due.due("end(241)", x.end(241), -1);
        Due.due("end(240)", x.end(240), 240);
        Due.due("end(239)", x.end(239), 240);
        Due.due("end(240)", x.end(240), -1);
        Due.due("count(5)", x.count(5), 239);
    }

    // ---- promise 4: text, as much as there may be

    static void promise04NoLineAtAll() {
        NeighbourWires x = Edge.furnished();
        x.end(0);
        Due.due("text()", x.text(), 0);
        asAtFirst(x, 0);
        x = Edge.furnished();
        x.end(0);
        Due.text(x, Edge.times(240, " "), 0, 0);
        asAtFirst(x, 0);
        Due.text(x, ";", -10, 2);
    }

    private static void asAtFirst(NeighbourWires x, int words) {
        int[] counts = {4, 1, 1, 0, words, 0};
        for (int what = 0; what < counts.length; what++) {
            Due.due("count(" + what + ")", x.count(what), counts[what]);
        }
        for (int place = 0; place < 4; place++) {
            Due.due("at(" + place + ", 0)", x.at(place, 0), place);
            Due.due("at(" + place + ", 1)", x.at(place, 1), 0);
        }
        Due.due("fault()", x.fault(), 0);
    }

    static void promise04WhatIsNotToldIsAsAtFirst() {
        NeighbourWires x = Edge.furnished();
        x.end(0);
        Due.text(x, "send 9;", 1, 0);
        asAtFirst(x, 1);
        Due.due("sent(0)", x.sent(0), 9);
        Due.due("torn() stays", x.torn(), 2);
        Due.due("SHEETS stay", x.count(6), 3);
        Due.text(x, "own 5; side 6;", 2, 0);
        Due.due("THE ROW is empty", x.empty(), 0);
        Due.text(x, "wires 2;", 1, 0);
        Due.due("OWN", x.count(1), 1);
        Due.due("SIDE", x.count(2), 1);
    }

    static void promise04TheOrderIsByNumbersThen() {
        NeighbourWires x = Edge.furnished();
        x.end(0);
        Due.text(x, "wires 5;", 1, 0);
        for (int place = 0; place < 5; place++) {
            Due.due("at(" + place + ", 0)", x.at(place, 0), place);
        }
    }

    static void promise04AsManyLinesAsTheTapeHolds() {
        NeighbourWires x = new NeighbourWires();
        Due.text(x, Edge.times(39, "send9;"), 39, 0);
        Due.due("count(4)", x.count(4), 39);
        Due.text(x, Edge.times(40, "send9;"), 40, 0);
        Due.due("count(4)", x.count(4), 40);
        Due.due("sent(39)", x.sent(39), 9);
    }

    static void promise04PlacesFromTheFirstToTheLast() {
        NeighbourWires x = new NeighbourWires();
        int[] places = {0, 1, 2, 238, 239};
        for (int place : places) {
            Due.text(x, Edge.times(place, " ") + "!", -10 - place, 1);
            Due.text(x, Edge.times(place, " ") + "7", -10 - place, 2);
        }
        Due.text(x, Edge.times(39, "send9;") + "send9 ", -250, 2);
        Due.text(x, Edge.times(39, "send9;") + "send9", -249, 2);
        Due.text(x, Edge.times(39, "send9;") + " send9", -250, 2);
        Due.text(x, Edge.times(237, " ") + "own", -250, 2);
    }

    static void promise04AFaultEmptiesTheTapeAndLeavesTheRest() {
        String[] texts = {"wires 7; own 3; side 3; shield 0; send 1 2; step 1 2 3; !", "wires 7; send 1; send",
            "own 3; send 32; ", "send 4; wires 5;", "wires 2; shield 0; shield 0;", "step 0 0 40; send 1;"};
        for (String text : texts) {
            Edge.changesOnly(text, () -> emptied(text), x -> x.text() < -9 ? 1 : 0, 1, "count(5)", "fault()", "tape: ");
            NeighbourWires x = emptied(text);
            x.text();
            Due.due("count(5)", x.count(5), 0);
            Due.due("the tape is empty: text()", x.text(), 0);
        }
    }

    private static NeighbourWires emptied(String text) {
        NeighbourWires x = Edge.furnished();
        x.end(0);
        Due.feed(x, text);
        return x;
    }

    // ---- promise 4: the lines and their numbers

    static void promise04Wires2To8() {
        NeighbourWires x = new NeighbourWires();
        int[] outside = {0, 1, 9, 10, 28, 999};
        for (int n : outside) {
            Due.text(x, "wires " + n + ";", -16, 3);
        }
        for (int n = 2; n <= 8; n++) {
            Due.text(x, "wires " + n + ";", 1, 0);
            Due.due("count(0)", x.count(0), n);
            Due.due("at(" + (n - 1) + ", 0)", x.at(n - 1, 0), n - 1);
            Due.due("at(" + n + ", 0)", x.at(n, 0), -1);
        }
    }

    static void promise04WiresAheadOfAllShieldsSendsSteps() {
        NeighbourWires x = new NeighbourWires();
        String[] ahead = {"shield 2;", "send 3;", "step 1 1 1;"};
        for (String line : ahead) {
            Due.text(x, line + "wires 4;", -10 - line.length(), 4);
            Due.text(x, "own 1; " + line + " wires", -18 - line.length(), 4);
            Due.text(x, "wires 4;" + line, 2, 0);
            Due.text(x, "wires 4;" + line + "wires 4;", -18 - line.length(), 4);
        }
        Due.text(x, "own 2; side 2; wires 6; send 63;", 4, 0);
        Due.due("count(0)", x.count(0), 6);
    }

    static void promise04WiresOwnSideOnce() {
        NeighbourWires x = new NeighbourWires();
        String[] names = {"wires", "own", "side"};
        for (String name : names) {
            Due.text(x, name + " 4;", 1, 0);
            Due.text(x, name + " 4;" + name + " 4;", -13 - name.length(), 4);
            Due.text(x, name + " 4;" + name, -13 - name.length(), 4);
            Due.text(x, name + " 4;" + name + " 999;", -13 - name.length(), 4);
        }
        Due.text(x, "own 4; side 4; wires 4;", 3, 0);
        Due.text(x, "own 4; side 4; wires 4; own 4;", -34, 4);
        Due.text(x, "own 4; side 4; wires 4; side 4;", -34, 4);
        Due.text(x, "wires 4; side 4; own 4; wires 4;", -34, 4);
        Due.text(x, "own 4; send 4; shield 0; own 4;", -35, 4);
    }

    static void promise04OwnAndSide0To99() {
        NeighbourWires x = new NeighbourWires();
        int[] inside = {0, 1, 98, 99};
        for (int price : inside) {
            Due.text(x, "own " + price + ";", 1, 0);
            Due.due("OWN", x.count(1), price);
            Due.due("SIDE", x.count(2), 1);
            Due.text(x, "side " + price + ";", 1, 0);
            Due.due("OWN", x.count(1), 1);
            Due.due("SIDE", x.count(2), price);
        }
        int[] outside = {100, 101, 999};
        for (int price : outside) {
            Due.text(x, "own " + price + ";", -14, 3);
            Due.text(x, "side " + price + ";", -15, 3);
        }
    }

    static void promise04ShieldsOfGaps() {
        for (int n = 2; n <= 8; n++) {
            String wires = "wires " + n + ";";
            NeighbourWires x = Due.told(wires + "shield 0;", 2);
            Due.due("at(0, 1)", x.at(0, 1), 1);
            Due.text(x, wires + "shield " + (n - 2) + ";", 2, 0);
            Due.due("at(n - 2, 1)", x.at(n - 2, 1), 1);
            Due.due("count(3)", x.count(3), 1);
            Due.text(x, wires + "shield " + (n - 1) + ";", -25, 3);
            Due.text(x, wires + "shield " + n + ";", -25, 3);
        }
    }

    static void promise04AShieldThatIsThere() {
        NeighbourWires x = new NeighbourWires();
        Due.text(x, "shield 2;shield 1;shield 0;", 3, 0);
        Due.due("count(3)", x.count(3), 3);
        Due.text(x, "shield 1;shield 1;", -26, 4);
        Due.text(x, "shield 2;shield 1;shield 2;", -35, 4);
        Due.text(x, "shield 0;shield 3;", -26, 3);
        Due.text(x, "shield 0;shield 00;", -26, 4);
        x.shield(1, true);
        Due.text(x, "shield 1;", 1, 0);
    }

    static void promise04WordsToSend() {
        for (int n = 2; n <= 8; n++) {
            int words = 1 << n;
            String wires = "wires " + n + ";";
            NeighbourWires x = Due.told(wires + "send 0 1 " + (words - 2) + " " + (words - 1) + ";", 2);
            Due.due("sent(0)", x.sent(0), 0);
            Due.due("sent(3)", x.sent(3), words - 1);
            Due.text(x, wires + "send " + words + ";", -23, 3);
            Due.text(x, wires + "send 0 " + words + ";", -25, 3);
            Due.text(x, wires + "send 999;", -23, 3);
        }
    }

    static void promise04OneWordToSendAtLeast() {
        NeighbourWires x = new NeighbourWires();
        Due.text(x, "send;", -14, 2);
        Due.text(x, "send 1;", 1, 0);
        Due.text(x, "send 1 2;", 1, 0);
        Due.due("count(4)", x.count(4), 2);
    }

    static void promise04StepsFrom() {
        for (int n = 2; n <= 8; n++) {
            int words = 1 << n;
            String wires = "wires " + n + ";";
            NeighbourWires x = Due.told(wires + "step " + (words - 1) + " 0 1;step 0 0 1;", 3);
            Due.due("sent(0)", x.sent(0), words - 1);
            Due.due("sent(1)", x.sent(1), 0);
            Due.text(x, wires + "step " + words + " 0 1;", -23, 3);
        }
    }

    static void promise04StepsBy0To255() {
        NeighbourWires x = new NeighbourWires();
        int[] by = {0, 1, 15, 16, 17, 254, 255};
        int[] second = {3, 4, 2, 3, 4, 1, 2};
        for (int i = 0; i < by.length; i++) {
            Due.text(x, "step 3 " + by[i] + " 2;", 1, 0);
            Due.due("sent(0)", x.sent(0), 3);
            Due.due("sent(1) by " + by[i], x.sent(1), second[i]);
        }
        Due.text(x, "step 3 256 2;", -17, 3);
        Due.text(x, "step 3 257 2;", -17, 3);
        Due.text(x, "step 3 999 2;", -17, 3);
    }

    static void promise04StepsAreModulo() {
        for (int n = 2; n <= 8; n++) {
            int words = 1 << n;
            NeighbourWires x = Due.told("wires " + n + ";step " + (words - 2) + " 1 4;", 2);
            int[] row = {words - 2, words - 1, 0, 1};
            for (int i = 0; i < row.length; i++) {
                Due.due("n " + n + ": sent(" + i + ")", x.sent(i), row[i]);
            }
        }
        NeighbourWires x = Due.told("wires 8;step 255 255 40;", 2);
        Due.due("sent(1)", x.sent(1), 254);
        Due.due("sent(39)", x.sent(39), 216);
    }

    static void promise04Steps1To40() {
        NeighbourWires x = new NeighbourWires();
        int[] inside = {1, 2, 39, 40};
        for (int count : inside) {
            Due.text(x, "step 0 1 " + count + ";", 1, 0);
            Due.due("count(4)", x.count(4), count);
        }
        int[] outside = {0, 41, 42, 999};
        for (int count : outside) {
            Due.text(x, "step 0 1 " + count + ";", -19, 3);
        }
    }

    static void promise04StepsHaveThreeNumbers() {
        NeighbourWires x = new NeighbourWires();
        Due.text(x, "step;", -14, 2);
        Due.text(x, "step 1;", -16, 2);
        Due.text(x, "step 1 1;", -18, 2);
        Due.text(x, "step 1 1 1;", 1, 0);
        Due.text(x, "step 1 1 1 1;", -21, 2);
    }

    static void promise04OneNumberBehindTheOtherNames() {
        String[] names = {"wires", "own", "side", "shield"};
        for (String name : names) {
            NeighbourWires x = new NeighbourWires();
            Due.text(x, name + ";", -10 - name.length(), 2);
            Due.text(x, name + " 2;", 1, 0);
            Due.text(x, name + " 2 2;", -13 - name.length(), 2);
            Due.text(x, name + " 2;2;", -13 - name.length(), 2);
            Due.text(x, name + " 2;;", -13 - name.length(), 2);
        }
    }

    static void promise04ARowOf40() {
        NeighbourWires x = new NeighbourWires();
        Due.text(x, "step 0 1 38;send 1;", 2, 0);
        Due.text(x, "step 0 1 38;send 1 2;", 2, 0);
        Due.due("count(4)", x.count(4), 40);
        Due.text(x, "step 0 1 38;send 1 2 3;", -31, 5);
        Due.text(x, "step 0 1 40;send 3;", -27, 5);
        Due.text(x, "step 0 1 38;step 1 1 1;", 2, 0);
        Due.text(x, "step 0 1 38;step 1 1 2;", 2, 0);
        Due.due("sent(39)", x.sent(39), 2);
        Due.text(x, "step 0 1 38;step 1 1 3;", -31, 5);
        Due.text(x, "step 0 1 40;step 1 1 1;", -31, 5);
        Due.text(x, "step 1 1 1;step 1 1 39;", 2, 0);
        Due.text(x, "step 1 1 1;step 1 1 40;", -30, 5);
        Due.text(x, "send " + Edge.times(40, "1 ") + ";", 1, 0);
        Due.text(x, "send " + Edge.times(41, "1 ") + ";", -95, 5);
    }

    static void promise04OutOfBoundsIsToldAheadOfAFullRow() {
        NeighbourWires x = new NeighbourWires();
        Due.text(x, "step 0 1 40;send 15;", -27, 5);
        Due.text(x, "step 0 1 40;send 16;", -27, 3);
        Due.text(x, "step 0 1 40;step 16 1 1;", -27, 3);
        Due.text(x, "step 0 1 40;step 15 256 1;", -30, 3);
        Due.text(x, "step 0 1 40;step 15 255 0;", -34, 3);
        Due.text(x, "step 0 1 40;step 15 255 40;", -34, 5);
        Due.text(x, "step 0 1 40;step 15 255 41;", -34, 3);
    }

    // ---- promise 4: tokens

    static void promise04NumbersOfOneToThreeFigures() {
        NeighbourWires x = new NeighbourWires();
        String[] sevens = {"7", "07", "007"};
        for (String seven : sevens) {
            Due.text(x, "own " + seven + ";", 1, 0);
            Due.due("OWN", x.count(1), 7);
        }
        Due.text(x, "own 0007;", -14, 1);
        Due.text(x, "own 0000;", -14, 1);
        Due.text(x, "own 000;", 1, 0);
        Due.text(x, "own 999;", -14, 3);
        Due.text(x, "own 1000;", -14, 1);
        Due.text(x, "own " + Edge.times(235, "9") + ";", -14, 1);
        Due.text(x, "own 7 0007;", -16, 1);
        Due.text(x, "0007", -10, 1);
        Due.text(x, "007", -10, 2);
    }

    static void promise04TokensAreAsLongAsMayBe() {
        NeighbourWires x = new NeighbourWires();
        Due.text(x, "ow 7;", -10, 1);
        Due.text(x, "own 7;", 1, 0);
        Due.text(x, "ownn 7;", -10, 1);
        Due.text(x, "ownside 7;", -10, 1);
        Due.text(x, "own side 7;", -14, 2);
        Due.text(x, "o wn 7;", -10, 1);
        Due.text(x, "send12;", 1, 0);
        Due.due("sent(0)", x.sent(0), 12);
        Due.text(x, "send1 2;", 1, 0);
        Due.due("sent(0)", x.sent(0), 1);
        String[] names = {"wire", "wiress", "sid", "sides", "shiel", "shields", "sen", "sends", "ste", "steps", "a", "z",
            "xires", "xwn", "xide", "xhield", "xend", "xtep", "wirex", "owx", "sidx", "shielx", "senx", "stex"};
        for (String name : names) {
            Due.text(x, name + " 2;", -10, 1);
        }
    }

    static void promise04BlanksAsManyAsWanted() {
        NeighbourWires x = new NeighbourWires();
        Due.text(x, "wires8;own2;side3;shield0;shield6;send0 255;step1 2 3;", 7, 0);
        Due.due("count(4)", x.count(4), 5);
        Due.text(x, " wires 8 ; own 2 ; send 0 255 ; ", 3, 0);
        String b = Edge.times(30, " ");
        Due.text(x, b + "own" + b + "2" + b + ";" + b + "send" + b + "3" + b + "4;" + b, 2, 0);
        Due.due("sent(1)", x.sent(1), 4);
        Due.text(x, "send 1 own", -17, 2);
        Due.text(x, "send 1own", -16, 2);
    }

    static void promise04SignsBesideThoseOfTokens() {
        int[] beside = {' ' - 1, ' ' + 1, '0' - 1, '9' + 1, ';' - 1, ';' + 1, 'a' - 1, 'z' + 1, 'A', 'Z', 0, 9, 10, 13,
            127, 128, 160, 255, ' ' + 128, '5' + 128, ';' + 128, 'o' + 128};
        for (int sign : beside) {
            char s = (char) sign;
            NeighbourWires x = new NeighbourWires();
            Due.text(x, s + "own 7;", -10, 1);
            Due.text(x, "own" + s + " 7;", -13, 1);
            Due.text(x, "own 7" + s + ";", -15, 1);
            Due.text(x, "own 7;" + s, -16, 1);
        }
        Due.text(new NeighbourWires(), " own 7 ; ", 1, 0);
    }

    // ---- promise 4: which fault is told

    static void promise04TheFirstFaultMet() {
        NeighbourWires x = new NeighbourWires();
        Due.text(x, "own 99 !", -17, 1);
        Due.text(x, "own 100 !", -14, 3);
        Due.text(x, "own 99 100;", -17, 2);
        Due.text(x, "own 9; own !", -17, 4);
        Due.text(x, "own 9; ow !", -17, 1);
        Due.text(x, "shield 0; shield 0 !", -27, 4);
        Due.text(x, "shield 0; shield 1 !", -29, 1);
        Due.text(x, "step 0 0 40; send 0 !", -28, 5);
        Due.text(x, "step 0 0 39; send 0 !", -30, 1);
        Due.text(x, "step 0 0 39; step 0 0 2 !", -32, 5);
        Due.text(x, "step 0 0 39; step 0 0 1 !", -34, 1);
        Due.text(x, "step 16 256 41", -15, 3);
        Due.text(x, "step 15 256 41", -18, 3);
        Due.text(x, "step 15 255 41", -22, 3);
        Due.text(x, "step 15 255 40", -24, 2);
        Due.text(x, "wires 9; wires 9", -16, 3);
        Due.text(x, "send 16 !", -15, 3);
        Due.text(x, "send 15 !", -18, 1);
    }

    static void promise04TheEndIsNoTokenThatCanStandThere() {
        NeighbourWires x = new NeighbourWires();
        String text = "wires 5;own 2;shield 3;send 30 31;step 1 2 3;";
        int[] ends = {0, 8, 14, 23, 34, 45};
        int lines = 0;
        for (int length = 1; length <= text.length(); length++) {
            boolean isEnd = length == ends[lines + 1];
            lines += isEnd ? 1 : 0;
            String ahead = text.substring(0, length);
            char last = ahead.charAt(length - 1);
            if (isEnd) {
                Due.text(x, ahead, lines, 0);
            } else if (last == ' ' || last >= '0' && last <= '9') {
                Due.text(x, ahead, -10 - length, 2);
            }
        }
        Due.due("all lines", lines, 5);
    }

    static void promise04TokensThatCanNotStandThere() {
        NeighbourWires x = new NeighbourWires();
        String[] names = {"wires", "own", "side", "shield", "send", "step"};
        for (String name : names) {
            Due.text(x, name + " " + name, -11 - name.length(), 2);
            Due.text(x, name + " ;", -11 - name.length(), 2);
            Due.text(x, name + " own", -11 - name.length(), 2);
        }
        Due.text(x, "step 1 own", -17, 2);
        Due.text(x, "step 1 1 own", -19, 2);
        Due.text(x, "step 1 1 1 own", -21, 2);
        Due.text(x, "own 1 own", -16, 2);
        Due.text(x, "own 1; 1", -17, 2);
        Due.text(x, "own 1; ;", -17, 2);
    }

    // ---- promise 5: fault

    static void promise05OfTheLatestText() {
        NeighbourWires x = new NeighbourWires();
        Due.due("none at first", x.fault(), 0);
        String[] texts = {"!", "own", "own 100;", "own 1;own 1;", "step 1 1 40;send 1;"};
        for (int fault = 1; fault <= 5; fault++) {
            Due.feed(x, texts[fault - 1]);
            Due.due("before it is read", x.fault(), fault - 1);
            Due.dueTrue("refused", x.text() <= -10);
            Due.due("fault()", x.fault(), fault);
            Due.due("asked again", x.fault(), fault);
        }
        Due.text(x, "", 0, 0);
        Due.text(x, "!", -10, 1);
        Due.text(x, "own 99;", 1, 0);
    }

    static void promise05NothingElseChangesIt() {
        NeighbourWires x = Edge.furnished();
        x.end(99);
        x.feed(-1L);
        x.end(0);
        x.order(99999);
        x.send(32);
        x.sheet(0, 0, -1);
        x.read(3, 0, 0, 1);
        x.greatest(0, 0);
        Due.due("fault()", x.fault(), 3);
        Edge.keeps("fault()", Edge::furnished, NeighbourWires::fault, 3);
    }
}
