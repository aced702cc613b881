/** Counts the calls whose answer is not the one that is due, and prints each of them. */
final class Due {
    private static int wrong = 0;
    private static int asked = 0;

    private Due() {
    }

    static void due(String call, long got, long want) {
        asked++;
        if (got != want) {
            wrong++;
            System.out.println(call + " answered " + got + ", due is " + want);
        }
    }

    /** How many answers were not as due up to now. */
    static int wrong() {
        return wrong;
    }

    static void dueTrue(String what, boolean holds) {
        due(what, holds ? 1 : 0, 1);
    }

    /** Ends the test: exit code 1 if an answer was wrong, or if nothing was asked at all. */
    static void finish() {
        System.out.println(asked + " answers, " + wrong + " not as due");
        if (wrong != 0 || asked == 0) {
            System.exit(1);
        }
    }

    /** Feeds a text of signs 0 to 255 and cuts what the last eight bytes have too much. */
    static void feed(NeighbourWires x, String text) {
        int from = x.count(5);
        int length = from + text.length();
        for (int i = 0; i < text.length(); i += 8) {
            due("feed", x.feed(eight(text, i)), from + i + 8);
        }
        due("end", x.end(length), from + (text.length() + 7) / 8 * 8);
    }

    static long eight(String text, int from) {
        long v = 0;
        for (int i = from; i < from + 8; i++) {
            v = v << 8 | (i < text.length() ? text.charAt(i) & 255 : ' ');
        }
        return v;
    }

    /** Eight signs as one number, without making anything. */
    static long eightOf(char a, char b, char c, char d, char e, char f, char g, char h) {
        long left = (long) a << 24 | b << 16 | c << 8 | d;
        long right = (long) e << 24 | f << 16 | g << 8 | h;
        return left << 32 | right;
    }

    /** A text from an empty tape: its answer and its fault. */
    static void text(NeighbourWires x, String text, int answer, int fault) {
        feed(x, text);
        due("text() of \"" + text + "\"", x.text(), answer);
        due("fault() of \"" + text + "\"", x.fault(), fault);
        due("count(5) after \"" + text + "\"", x.count(5), 0);
    }

    /** A new object that was told a text without a fault. */
    static NeighbourWires told(String text, int lines) {
        NeighbourWires x = new NeighbourWires();
        text(x, text, lines, 0);
        return x;
    }
}
