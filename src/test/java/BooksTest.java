/** Promises 18 to 22: the books by two rules, and the greatest. */
public final class BooksTest {
    public static void main(String[] args) {
        listed("wires 2;", 0, 2, 0, 1, 2, 3);
        listed("wires 2;", 1, 1, 0, 1, 3);
        listed("wires 3;", 0, 2, 0, 1, 3, 4, 6, 7);
        listed("wires 3;", 1, 2, 0, 1, 4, 5, 7);
        listed("wires 4;", 0, 2, 0, 1, 3, 6, 7, 8, 9, 12, 14, 15);
        listed("wires 4;", 1, 2, 0, 1, 4, 5, 7, 12, 13, 15);
        sizes();
        refused();
        layDoesNotMatter();
        promise22();
        byTheModel();
        Due.finish();
    }

    private static void listed(String text, int kind, int slowest, int... words) {
        NeighbourWires x = Due.told(text, 1);
        Due.due("book(" + kind + ")", x.book(kind), words.length);
        Due.due("slowest(" + kind + ")", x.slowest(kind), slowest);
        int lesser = 0;
        for (int word = 0; word < 1 << x.count(0); word++) {
            boolean in = lesser < words.length && words[lesser] == word;
            Due.due("place(" + kind + ", " + word + ")", x.place(kind, word), in ? lesser : -4);
            if (in) {
                Due.due("word(" + kind + ", " + lesser + ")", x.word(kind, lesser), word);
                lesser++;
            }
        }
        Due.due("word(" + kind + ") behind the last", x.word(kind, lesser), -4);
    }

    private static void sizes() {
        int[][] sizes = {{4, 6, 10, 16, 26, 42, 68}, {3, 5, 8, 13, 21, 34, 55}};
        for (int n = 2; n <= 8; n++) {
            NeighbourWires x = Due.told("wires " + n + ";", 1);
            for (int kind = 0; kind <= 1; kind++) {
                Due.due("n " + n + ": book(" + kind + ")", x.book(kind), sizes[kind][n - 2]);
            }
        }
    }

    private static void refused() {
        NeighbourWires x = new NeighbourWires();
        int[] bad = {-1, 2, Integer.MIN_VALUE, Integer.MAX_VALUE};
        for (int kind : bad) {
            Due.due("book(" + kind + ")", x.book(kind), -1);
            Due.due("word(" + kind + ", 0)", x.word(kind, 0), -1);
            Due.due("word(" + kind + ", 99)", x.word(kind, 99), -1);
            Due.due("place(" + kind + ", 0)", x.place(kind, 0), -1);
            Due.due("slowest(" + kind + ")", x.slowest(kind), -1);
        }
        Due.due("word(0, -1)", x.word(0, -1), -1);
        Due.due("word(1, MAX)", x.word(1, Integer.MAX_VALUE), -4);
        Due.due("word(1, MIN)", x.word(1, Integer.MIN_VALUE), -1);
        Due.due("place(0, 16)", x.place(0, 16), -1);
        Due.due("place(0, -1)", x.place(0, -1), -1);
    }

    private static void layDoesNotMatter() {
        NeighbourWires x = Due.told("shield 0; shield 1; shield 2;", 3);
        x.order(2031);
        Due.due("slowest(0)", x.slowest(0), 2);
        Due.due("place(0, 3)", x.place(0, 3), 2);
        Due.due("greatest(0, 0)", x.greatest(0, 0), 2);
        Due.due("greatest(1, 1)", x.greatest(1, 1), 36995);
        x = Due.told("wires 2; shield 0;", 2);
        Due.due("slowest(0)", x.slowest(0), 2);
        Due.due("greatest(0, 1)", x.greatest(0, 1), 1 + 8);
    }

    private static void promise22() {
        NeighbourWires x = Due.told("wires 2;", 1);
        int[] books = {1 + 8, 1 + 2 + 8, 15, 15, 15};
        int[] sizes = {2, 3, 4, 4, 4};
        for (int k = 0; k <= 4; k++) {
            Due.due("n 2: greatest(" + k + ", 0)", x.greatest(k, 0), sizes[k]);
            Due.due("n 2: greatest(" + k + ", 1)", x.greatest(k, 1), books[k]);
        }
        x = Due.told("wires 3;", 1);
        Due.due("n 3: greatest(0, 1)", x.greatest(0, 1), 1 + 128);
        Due.due("n 3: greatest(4, 1)", x.greatest(4, 1), 255);
        Due.due("greatest(-1, 0)", x.greatest(-1, 0), -1);
        Due.due("greatest(5, 0)", x.greatest(5, 0), -1);
        Due.due("greatest(0, 2)", x.greatest(0, 2), -1);
        Due.due("greatest(0, -1)", x.greatest(0, -1), -1);
        x = Due.told("wires 5;", 1);
        Due.due("n 5: greatest(0, 0)", x.greatest(0, 0), -2);
        Due.due("n 5: greatest(4, 1)", x.greatest(4, 1), -2);
        Due.due("n 5: greatest(5, 0)", x.greatest(5, 0), -1);
        Due.due("n 5: greatest(0, 2)", x.greatest(0, 2), -1);
    }

    private static void byTheModel() {
        for (int n = 2; n <= 8; n++) {
            NeighbourWires x = Due.told("wires " + n + ";", 1);
            Model y = new Model();
            y.n = n;
            for (int kind = 0; kind <= 1; kind++) {
                Due.due("n " + n + ": slowest(" + kind + ")", x.slowest(kind), y.slowest(kind));
                NeighbourWires asked = Edge.wired(n);
                NeighbourWires answered = Edge.wired(n);
                for (int i = 0; i < 1 << n; i++) {
                    Due.due("n " + n + ": word(" + kind + ", " + i + ")", asked.word(kind, i), y.word(kind, i));
                    Due.due("n " + n + ": place(" + kind + ", " + i + ")", answered.place(kind, i), y.place(kind, i));
                }
            }
            for (int k = 0; k <= 4; k++) {
                Due.due("n " + n + ": greatest(" + k + ", 0)", x.greatest(k, 0), y.greatest(k, 0));
                Due.due("n " + n + ": greatest(" + k + ", 1)", x.greatest(k, 1), y.greatest(k, 1));
            }
        }
    }
}
