/** Promises 1 to 5: a new object, the tape, the text and its faults. */
public final class TextTest {
    public static void main(String[] args) {
        promise1();
        promise2();
        promise3();
        promise4Told();
        promise4Refused();
        tokens();
        faultsOfOrder();
        faultsOfBounds();
        faultsOfTellingAgain();
        faultsOfTheRow();
        promise5();
        Due.finish();
    }

    private static void promise1() {
        NeighbourWires x = new NeighbourWires();
        int[] counts = {4, 1, 1, 0, 0, 0, NeighbourWires.NONE};
        for (int what = 0; what < counts.length; what++) {
            Due.due("new: count(" + what + ")", x.count(what), counts[what]);
        }
        for (int place = 0; place < 4; place++) {
            Due.due("new: at(" + place + ", 0)", x.at(place, 0), place);
            Due.due("new: at(" + place + ", 1)", x.at(place, 1), 0);
        }
        Due.due("new: fault()", x.fault(), 0);
        Due.due("new: torn()", x.torn(), 0);
        for (int k = 0; k < 4; k++) {
            Due.due("new: lay", x.lay(k, 0, 0), -11);
        }
        NeighbourWires other = new NeighbourWires();
        x.send(3);
        x.shield(0, true);
        x.sheet(0, 0, 3);
        Due.due("another object's row", other.count(4), 0);
        Due.due("another object's shields", other.count(3), 0);
        Due.due("another object's sheet", other.count(6), -4);
    }

    private static void promise2() {
        NeighbourWires x = new NeighbourWires();
        Due.due("feed", x.feed(Due.eight("own 7;  ", 0)), 8);
        Due.due("text", x.text(), 1);
        Due.due("the highest byte is the first", x.count(1), 7);
        for (int i = 1; i <= 30; i++) {
            Due.due("feed " + i, x.feed(0x2020202020202020L), 8 * i);
        }
        Due.due("feed over 240", x.feed(0L), -3);
        Due.due("a feed refused changes nothing", x.count(5), 240);
        Due.due("end", x.end(233), 240);
        Due.due("feed of 233", x.feed(0L), -3);
        Due.due("end", x.end(232), 233);
        Due.due("feed of 232", x.feed(0x2020202020202020L), 240);
        Due.due("240 blanks are no lines", x.text(), 0);
        Due.due("feed of negative bytes", x.feed(-1L), 8);
        Due.due("text", x.text(), -10);
        Due.due("fault", x.fault(), 1);
    }

    private static void promise3() {
        NeighbourWires x = new NeighbourWires();
        Due.due("end(0)", x.end(0), 0);
        Due.due("end(1) of nothing", x.end(1), -1);
        x.feed(Due.eight("own 12;x", 0));
        Due.due("end(9)", x.end(9), -1);
        Due.due("end(-1)", x.end(-1), -1);
        Due.due("an end refused changes nothing", x.count(5), 8);
        Due.due("end(8)", x.end(8), 8);
        Due.due("end(7)", x.end(7), 8);
        Due.due("end(8) of 7", x.end(8), -1);
        Due.due("count(5)", x.count(5), 7);
        Due.due("text", x.text(), 1);
        Due.due("count(1)", x.count(1), 12);
    }

    private static void promise4Told() {
        NeighbourWires x = Due.told("wires 6; own 3; side 99; shield 0; shield 4; send 63 1; step 60 3 4;", 7);
        int[] counts = {6, 3, 99, 2, 6, 0};
        for (int what = 0; what < counts.length; what++) {
            Due.due("told: count(" + what + ")", x.count(what), counts[what]);
        }
        int[] row = {63, 1, 60, 63, 2, 5};
        for (int i = 0; i < row.length; i++) {
            Due.due("told: sent(" + i + ")", x.sent(i), row[i]);
        }
        Due.due("order(501234)", x.order(501234), 1);
        x.sheet(0, 1, 5);
        Due.text(x, "send 4;", 1, 0);
        int[] untold = {4, 1, 1, 0, 1, 0};
        for (int what = 0; what < untold.length; what++) {
            Due.due("not told: count(" + what + ")", x.count(what), untold[what]);
        }
        for (int place = 0; place < 4; place++) {
            Due.due("the order is by numbers then", x.at(place, 0), place);
            Due.due("no shields then", x.at(place, 1), 0);
        }
        Due.due("a sheet is not told", x.count(6), 5);
        Due.text(x, "step 250 255 40;", -15, 3);
        Due.text(x, "wires 8;step 250 255 40;", 2, 0);
        Due.due("steps go down by 255 of 256", x.sent(1), 249);
        Due.due("steps, the last", x.sent(39), 211);
        Due.text(x, "step 15 0 1; step 0 16 2; step 1 17 3;", 3, 0);
        int[] steps = {15, 0, 0, 1, 2, 3};
        for (int i = 0; i < steps.length; i++) {
            Due.due("steps modulo 16", x.sent(i), steps[i]);
        }
        Due.text(x, "", 0, 0);
        Due.due("an empty text tells an empty row", x.count(4), 0);
    }

    private static void promise4Refused() {
        NeighbourWires x = Due.told("wires 5; own 2; side 3; shield 1; send 7 31;", 5);
        x.order(43210);
        Due.text(x, "wires 7; own 9; side 9; shield 2; send 1; send 2", -58, 2);
        int[] counts = {5, 2, 3, 1, 2, 0};
        for (int what = 0; what < counts.length; what++) {
            Due.due("refused: count(" + what + ")", x.count(what), counts[what]);
        }
        Due.due("refused: sent(1)", x.sent(1), 31);
        Due.due("refused: at(1, 1)", x.at(1, 1), 1);
        Due.due("refused: at(0, 0)", x.at(0, 0), 4);
    }

    private static void tokens() {
        NeighbourWires x = new NeighbourWires();
        Due.text(x, "wires2;own3;side4;shield0;send1 2 3;step1 2 3;", 6, 0);
        Due.due("count(4)", x.count(4), 6);
        Due.text(x, "  own   007  ;  ;", -26, 2);
        Due.text(x, "  own   007  ;  ", 1, 0);
        Due.due("007", x.count(1), 7);
        Due.text(x, "own 0007;", -14, 1);
        Due.text(x, "own 99", -16, 2);
        Due.text(x, "own 99   ", -19, 2);
        Due.text(x, "own 9 9;", -16, 2);
        Due.text(x, "own;", -13, 2);
        Due.text(x, "own", -13, 2);
        Due.text(x, "ownn 1;", -10, 1);
        Due.text(x, "ow 1;", -10, 1);
        Due.text(x, "ownside 1;", -10, 1);
        Due.text(x, "OWN 1;", -10, 1);
        Due.text(x, "own\t1;", -13, 1);
        Due.text(x, "own 1\n;", -15, 1);
        Due.text(x, "own 1;\u00e4", -16, 1);
        Due.text(x, "own 1;\u0000", -16, 1);
        Due.text(x, "own -1;", -14, 1);
        Due.text(x, "own 1`;", -15, 1);
        Due.text(x, "own 1{;", -15, 1);
        Due.text(x, "own 1/;", -15, 1);
        Due.text(x, "own 1:;", -15, 1);
    }

    private static void faultsOfOrder() {
        NeighbourWires x = new NeighbourWires();
        Due.text(x, ";", -10, 2);
        Due.text(x, "5;", -10, 2);
        Due.text(x, "5555;", -10, 1);
        Due.text(x, "send;", -14, 2);
        Due.text(x, "send send 1;", -15, 2);
        Due.text(x, "send sent 1;", -15, 1);
        Due.text(x, "send 1 own 1;", -17, 2);
        Due.text(x, "send 1 2 3 step;", -21, 2);
        Due.text(x, "step 1 2;", -18, 2);
        Due.text(x, "step 1;", -16, 2);
        Due.text(x, "step ;", -15, 2);
        Due.text(x, "step 1 2 3 4;", -21, 2);
        Due.text(x, "shield 1 2;", -19, 2);
        Due.text(x, "wires 5 5;", -18, 2);
        Due.text(x, "side 5 5;", -17, 2);
        Due.text(x, "own 1;;", -16, 2);
        Due.text(x, "own 1; 2", -17, 2);
        Due.text(x, "send 1 ", -17, 2);
        Due.text(x, "step 1 2 3", -20, 2);
    }

    private static void faultsOfBounds() {
        NeighbourWires x = new NeighbourWires();
        Due.text(x, "wires 1;", -16, 3);
        Due.text(x, "wires 9;", -16, 3);
        Due.text(x, "wires 2;", 1, 0);
        Due.text(x, "wires 8;", 1, 0);
        Due.text(x, "own 100;", -14, 3);
        Due.text(x, "own 99;own 1", -17, 4);
        Due.text(x, "own 0;side 0;", 2, 0);
        Due.due("own 0", x.count(1), 0);
        Due.due("side 0", x.count(2), 0);
        Due.text(x, "side 100;", -15, 3);
        Due.text(x, "shield 3;", -17, 3);
        Due.text(x, "shield 2;", 1, 0);
        Due.text(x, "wires 2; shield 1;", -26, 3);
        Due.text(x, "wires 8; shield 6; send 255;", 3, 0);
        Due.text(x, "wires 8; shield 7;", -26, 3);
        Due.text(x, "send 16;", -15, 3);
        Due.text(x, "send 15 16;", -18, 3);
        Due.text(x, "wires 3; send 8;", -24, 3);
        Due.text(x, "wires 8; send 256;", -24, 3);
        Due.text(x, "step 16 0 1;", -15, 3);
        Due.text(x, "step 15 255 1;", 1, 0);
        Due.text(x, "step 15 256 1;", -18, 3);
        Due.text(x, "step 15 5 0;", -20, 3);
        Due.text(x, "step 15 5 41;", -20, 3);
        Due.text(x, "step 15 5 40;", 1, 0);
        Due.text(x, "step 1 1 16 16", -22, 2);
    }

    private static void faultsOfTellingAgain() {
        NeighbourWires x = new NeighbourWires();
        Due.text(x, "wires 5; wires 5;", -19, 4);
        Due.text(x, "wires 5; wires x;", -19, 4);
        Due.text(x, "own 5; own 5;", -17, 4);
        Due.text(x, "side 5; own 5; side 5;", -25, 4);
        Due.text(x, "shield 0; wires 5;", -20, 4);
        Due.text(x, "send 0; wires 5;", -18, 4);
        Due.text(x, "step 0 0 1; wires 5;", -22, 4);
        Due.text(x, "own 5; side 5; wires 5;", 3, 0);
        Due.text(x, "shield 0; own 5; send 0; side 5; step 0 0 1;", 5, 0);
        Due.text(x, "shield 0; shield 1; shield 0;", -37, 4);
        Due.text(x, "send 1; send 1; step 1 1 1; step 1 1 1;", 4, 0);
    }

    private static void faultsOfTheRow() {
        NeighbourWires x = new NeighbourWires();
        Due.text(x, "step 0 1 39; send 1 2;", -30, 5);
        Due.text(x, "step 0 1 39; send 1;", 2, 0);
        Due.due("count(4)", x.count(4), 40);
        Due.text(x, "step 0 1 40; send 16;", -28, 3);
        Due.text(x, "step 0 1 40; send 15;", -28, 5);
        Due.text(x, "step 0 1 40; step 0 1 1;", -32, 5);
        Due.text(x, "step 0 1 40; step 0 1 41;", -32, 3);
        Due.text(x, "step 0 1 30; step 0 1 11;", -32, 5);
        Due.text(x, "step 0 1 30; step 0 1 10;", 2, 0);
    }

    private static void promise5() {
        NeighbourWires x = new NeighbourWires();
        Due.text(x, "own 500;", -14, 3);
        Due.feed(x, "own 5;");
        Due.due("fault stays until the next text", x.fault(), 3);
        x.end(0);
        x.send(99);
        Due.due("fault stays by other calls", x.fault(), 3);
        Due.text(x, "own 5;", 1, 0);
        Due.due("fault of a text that is taken", x.fault(), 0);
    }
}
