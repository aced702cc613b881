/** The boundaries that promises 18 to 22 name, and one step to each side of them. */
public final class BooksEdgesTest {
    private static final int[][] SIZES = {{4, 6, 10, 16, 26, 42, 68}, {3, 5, 8, 13, 21, 34, 55}};

    public static void main(String[] args) throws ReflectiveOperationException {
        Edge.run(BooksEdgesTest.class, 18, 22);
    }

    // ---- promise 18: book

    static void promise18Kinds() {
        for (int n = 2; n <= 8; n++) {
            int wires = n;
            Edge.answers("n " + n + ": book", () -> Edge.wired(wires), 0, NeighbourWires::book, SIZES[0][n - 2],
                SIZES[1][n - 2]);
        }
        Edge.answers("book", Edge::furnished, 0, NeighbourWires::book, 16, 13);
    }

    private static void inBook(int n, int kind, int... words) {
        NeighbourWires x = Edge.wired(n);
        int found = 0;
        for (int word = 0; word < 1 << n; word++) {
            boolean in = found < words.length && words[found] == word;
            Due.due("n " + n + ": place(" + kind + ", " + word + ")", x.place(kind, word), in ? found : -4);
            found += in ? 1 : 0;
        }
        Due.due("book(" + kind + ")", x.book(kind), words.length);
    }

    static void promise18TheOuterOnesHaveOneNeighbour() {
        inBook(2, 0, 0, 1, 2, 3);
        inBook(3, 0, 0, 1, 3, 4, 6, 7);
        inBook(4, 0, 0, 1, 3, 6, 7, 8, 9, 12, 14, 15);
    }

    static void promise18EvenGapsAndOddGaps() {
        inBook(2, 1, 0, 1, 3);
        inBook(3, 1, 0, 1, 4, 5, 7);
        inBook(4, 1, 0, 1, 4, 5, 7, 12, 13, 15);
    }

    static void promise18WithoutShieldsAndByNumbers() {
        NeighbourWires plain = Edge.wired(5);
        for (int word = 0; word < 32; word++) {
            int w = word;
            Due.due("place(0, " + w + ")", Edge.furnished().place(0, w), plain.place(0, w));
            Due.due("place(1, " + w + ")", Edge.furnished().place(1, w), plain.place(1, w));
        }
    }

    // ---- promise 19: word

    static void promise19FromTheFirstToTheLast() {
        for (int n = 2; n <= 8; n++) {
            for (int kind = 0; kind <= 1; kind++) {
                NeighbourWires x = Edge.wired(n);
                int size = SIZES[kind][n - 2];
                int last = (1 << n) - 1;
                Due.due("the first", x.word(kind, 0), 0);
                Due.due("the second", x.word(kind, 1), 1);
                Due.due("the last but one", x.word(kind, size - 2) < last ? 1 : 0, 1);
                Due.due("the last", x.word(kind, size - 1), last);
                Due.due("none behind it", x.word(kind, size), -4);
                Due.due("none behind it", x.word(kind, size + 1), -4);
                Due.due("place(word(size - 2))", x.place(kind, x.word(kind, size - 2)), size - 2);
            }
        }
    }

    static void promise19PlacesThatAreNotThere() {
        int[] below = {-1, -2, Edge.MIN};
        for (int place : below) {
            Edge.keeps("word(0, " + place + ")", Edge::furnished, x -> x.word(0, place), -1);
            Edge.keeps("word(1, " + place + ")", Edge::furnished, x -> x.word(1, place), -1);
        }
        Edge.keeps("word(0, 15)", Edge::furnished, x -> x.word(0, 15), 31);
        Edge.keeps("word(0, 16)", Edge::furnished, x -> x.word(0, 16), -4);
        Edge.keeps("word(1, 12)", Edge::furnished, x -> x.word(1, 12), 31);
        Edge.keeps("word(1, 13)", Edge::furnished, x -> x.word(1, 13), -4);
        Edge.keeps("word(0, MAX)", Edge::furnished, x -> x.word(0, Edge.MAX), -4);
    }

    static void promise19Kinds() {
        Edge.answers("word(.., 2)", NeighbourWires::new, 0, (x, v) -> x.word(v, 2), 3, 4);
        Edge.answers("word(.., 8)", NeighbourWires::new, 0, (x, v) -> x.word(v, 8), 14, -4);
    }

    // ---- promise 20: place

    static void promise20Words() {
        for (int n = 2; n <= 8; n++) {
            int last = (1 << n) - 1;
            int wires = n;
            for (int kind = 0; kind <= 1; kind++) {
                int of = kind;
                Edge.outside("n " + n + ": place", () -> Edge.wired(wires), 0, last, -1, (x, v) -> x.place(of, v));
                NeighbourWires x = Edge.wired(n);
                Due.due("place of 0", x.place(kind, 0), 0);
                Due.due("place of 1", x.place(kind, 1), 1);
                Due.due("place of the last", x.place(kind, last), SIZES[kind][n - 2] - 1);
            }
        }
    }

    static void promise20OneThatIsNotInIt() {
        int[] due = {0, 1, -4, 2, 3, -4, 4, 5};
        Edge.answers("place(0, ..)", () -> Edge.wired(3), 0, (x, v) -> x.place(0, v), due);
        int[] other = {0, 1, -4, -4, 2, 3, -4, 4};
        Edge.answers("place(1, ..)", () -> Edge.wired(3), 0, (x, v) -> x.place(1, v), other);
    }

    static void promise20Kinds() {
        Edge.answers("place(.., 12)", NeighbourWires::new, 0, (x, v) -> x.place(v, 12), 7, 5);
        Edge.answers("place(.., 2)", NeighbourWires::new, 0, (x, v) -> x.place(v, 2), -4, -4);
    }

    // ---- promise 21: slowest

    static void promise21Kinds() {
        int[][] due = {{2, 1}, {2, 2}, {2, 2}};
        for (int n = 2; n <= 4; n++) {
            int wires = n;
            Edge.answers("n " + n + ": slowest", () -> Edge.wired(wires), 0, NeighbourWires::slowest, due[n - 2]);
        }
        Edge.answers("slowest", Edge::furnished, 0, NeighbourWires::slowest, 2, 2);
    }

    static void promise21WithoutShields() {
        NeighbourWires x = Due.told("wires 2;shield 0;", 2);
        Due.due("slowest(0)", x.slowest(0), 2);
        Due.due("slowest(1)", x.slowest(1), 1);
    }

    // ---- promise 22: greatest

    static void promise22SlowFrom0To4() {
        Edge.answers("n 2: greatest(.., 0)", () -> Edge.wired(2), 0, (x, v) -> x.greatest(v, 0), 2, 3, 4, 4, 4);
        Edge.answers("n 2: greatest(.., 1)", () -> Edge.wired(2), 0, (x, v) -> x.greatest(v, 1), 9, 11, 15, 15, 15);
        Edge.answers("n 3: greatest(.., 0)", () -> Edge.wired(3), 0, (x, v) -> x.greatest(v, 0), 2, 4, 6, 7, 8);
        Edge.answers("n 4: greatest(.., 0)", () -> Edge.wired(4), 0, (x, v) -> x.greatest(v, 0), 2, 5, 10, 13, 16);
        Edge.answers("n 4: greatest(.., 1)", () -> Edge.wired(4), 0, (x, v) -> x.greatest(v, 1), 32769, 36995, 54219,
            new Model().greatest(3, 1), 65535);
    }

    static void promise22WhatIsAsked() {
        Edge.answers("greatest(1, ..)", NeighbourWires::new, 0, (x, v) -> x.greatest(1, v), 5, 36995);
        Edge.answers("greatest(4, ..)", NeighbourWires::new, 0, (x, v) -> x.greatest(4, v), 16, 65535);
    }

    static void promise22FourWiresAtMost() {
        for (int n = 2; n <= 8; n++) {
            int wires = n;
            for (int k = 0; k <= 4; k++) {
                int slow = k;
                NeighbourWires x = Edge.wired(n);
                if (n <= 4) {
                    Due.dueTrue("n " + n + ": greatest(" + k + ", 0)", x.greatest(k, 0) >= 2);
                    Due.due("n " + n + ": greatest(" + k + ", 1) has 0", x.greatest(k, 1) & 1, 1);
                } else {
                    Edge.keeps("n " + n + ": greatest", () -> Edge.wired(wires), y -> y.greatest(slow, 0), -2);
                    Edge.keeps("n " + n + ": greatest", () -> Edge.wired(wires), y -> y.greatest(slow, 1), -2);
                }
            }
        }
        Edge.keeps("greatest(2, 0)", Edge::furnished, x -> x.greatest(2, 0), -2);
    }

    static void promise22ANumberIsTestedAheadOfTheWires() {
        Edge.outside("n 5: greatest(.., 0)", Edge::furnished, 0, 4, -1, (x, v) -> x.greatest(v, 0));
        Edge.outside("n 5: greatest(0, ..)", Edge::furnished, 0, 1, -1, (x, v) -> x.greatest(0, v));
        Edge.outside("n 8: greatest(4, ..)", () -> Edge.wired(8), 0, 1, -1, (x, v) -> x.greatest(4, v));
    }

    static void promise22OfSeveralTheLeastWords() {
        Due.due("n 2: 0, 1, 3 and not 0, 2, 3", Edge.wired(2).greatest(1, 1), 1 + 2 + 8);
        Due.due("n 3: 0 and 7, the only two", Edge.wired(3).greatest(0, 1), 1 + 128);
        int words = 1 + 2 + (1 << 7) + (1 << 12) + (1 << 15);
        Due.due("n 4: 0, 1, 7, 12, 15", new NeighbourWires().greatest(1, 1), words);
    }

    static void promise22ShieldsAndOrderDoNotMatter() {
        NeighbourWires x = Due.told("wires 4;shield 0;shield 1;shield 2;", 4);
        x.order(1302);
        int[] words = {32769, 36995, 54219};
        for (int k = 0; k < words.length; k++) {
            Due.due("greatest(" + k + ", 1)", x.greatest(k, 1), words[k]);
        }
    }
}
