import java.util.Random;

/** All promises: long mixed runs, each answer against that of the slow model. */
public final class ModelTest {
    private static final int RUNS = 260;
    /** What is asked of an object later is free; the longest step is a text of some 50 calls. */
    private static final int CALLS = 512, MOST_OF_A_STEP = 70;
    private static Random random;
    private static NeighbourWires x;
    private static Model y;

    public static void main(String[] args) {
        for (int run = 0; run < RUNS; run++) {
            random = new Random(run);
            x = new NeighbourWires();
            y = new Model();
            int most = 2 + run % 7;
            for (int calls = 0; calls < CALLS;) {
                calls += CALLS - calls < MOST_OF_A_STEP ? shortStep() : step(most);
            }
        }
        Due.finish();
    }

    /** Mostly what is as told, at times just beside it, at times anything. */
    private static int about(int lowest, int highest) {
        int kind = random.nextInt(40);
        if (kind == 0) {
            int[] far = {Integer.MIN_VALUE, Integer.MAX_VALUE, -1, 256, 1 << 30, -256};
            return far[random.nextInt(far.length)];
        }
        if (kind <= 2) {
            return kind == 1 ? lowest - 1 : highest + 1;
        }
        return lowest + random.nextInt(highest - lowest + 1);
    }

    private static int word() {
        return about(0, (1 << y.n) - 1);
    }

    /** One call or a few; how many. */
    private static int step(int most) {
        switch (random.nextInt(20)) {
            case 0: return text(most);
            case 1: case 2: case 3: return wires();
            case 4: case 5: case 6: case 7: return rowChanges();
            case 8: case 9: case 10: return rowFigures();
            case 11: case 12: return books();
            case 13: case 14: return machines();
            case 15: case 16: case 17: return sheets();
            case 18: return slowSearches();
            default: return counts();
        }
    }

    /** One call, near the last that is promised. */
    private static int shortStep() {
        int kind = random.nextInt(10);
        return kind <= 2 ? wires() : kind <= 4 ? rowChanges() : kind <= 6 ? rowFigures() : kind <= 8 ? books() : counts();
    }

    private static void same(String call, int got, int want) {
        Due.due("n " + y.n + ", row " + y.row + ": " + call, got, want);
    }

    private static int text(int most) {
        String text = randomText(most);
        int calls = 0;
        for (int i = 0; i < text.length(); i += 8) {
            long eight = Due.eight(text, i);
            same("feed", x.feed(eight), y.feed(eight));
            calls++;
        }
        int length = random.nextInt(10) == 0 ? about(0, 240) : Math.min(text.length(), 240);
        same("end(" + length + ")", x.end(length), y.end(length));
        same("text() of " + text, x.text(), y.text());
        same("fault() of " + text, x.fault(), y.fault);
        return calls + 3;
    }

    private static String randomText(int most) {
        StringBuilder s = new StringBuilder();
        int n = 4;
        if (random.nextInt(8) != 0) {
            n = 2 + random.nextInt(most - 1);
            s.append("wires ").append(n).append(';');
        }
        String[] names = {"own", "side", "shield", "send", "step", "send", "step", "wires"};
        int lines = random.nextInt(6);
        for (int i = 0; i < lines; i++) {
            line(s, names[random.nextInt(random.nextInt(5) == 0 ? 8 : 7)], n);
        }
        for (int spoiled = random.nextInt(3); spoiled == 1 && s.length() > 0; spoiled--) {
            char[] signs = {' ', ';', 'a', 'e', '0', '9', '3', 'W', 1, 200};
            s.setCharAt(random.nextInt(s.length()), signs[random.nextInt(signs.length)]);
        }
        return s.toString();
    }

    private static void line(StringBuilder s, String name, int n) {
        int[] bounds = {name.equals("shield") ? n - 2 : (1 << n) - 1, 255, 40};
        int numbers = name.equals("send") ? 1 + random.nextInt(12) : name.equals("step") ? 3 : 1;
        if (random.nextInt(20) == 0) {
            numbers += random.nextInt(3) - 1;
        }
        s.append(name);
        for (int i = 0; i < numbers; i++) {
            boolean step = name.equals("step") && i < 3;
            int bound = name.equals("own") || name.equals("side") ? 99 : bounds[step ? i : 0];
            int v = random.nextInt(bound + 1 + random.nextInt(2));
            s.append(i == 0 && random.nextBoolean() ? "" : " ").append(step && i == 2 ? 1 + v / 3 : v);
        }
        s.append(random.nextBoolean() ? ";" : " ; ");
    }

    private static int wires() {
        int a = word();
        int b = word();
        switch (random.nextInt(5)) {
            case 0: {
                int figures = randomFigures();
                same("order(" + figures + ")", x.order(figures), y.order(figures));
                return 1;
            }
            case 1: {
                int g = about(0, y.n - 2);
                boolean is = random.nextInt(3) == 0;
                same("shield(" + g + ", " + is + ")", x.shield(g, is), y.shield(g, is));
                return 1;
            }
            case 2: {
                int place = about(0, y.n - 1);
                int what = about(0, 1);
                same("at(" + place + ", " + what + ")", x.at(place, what), y.at(place, what));
                return 1;
            }
            case 3: {
                int what = about(0, 3);
                same("change(" + a + ", " + b + ", " + what + ")", x.change(a, b, what), y.change(a, b, what));
                return 1;
            }
            default: {
                int wire = about(0, y.n - 1);
                same("slow(" + a + ", " + b + ", " + wire + ")", x.slow(a, b, wire), y.slow(a, b, wire));
                return 1;
            }
        }
    }

    private static int randomFigures() {
        int figures = 0;
        int left = (1 << y.n) - 1;
        while (left != 0) {
            int wire = random.nextInt(y.n);
            if ((left >> wire & 1) == 1) {
                left &= ~(1 << wire);
                figures = figures * 10 + wire;
            }
        }
        return random.nextInt(10) == 0 ? figures + random.nextInt(21) - 10 : figures;
    }

    private static int rowChanges() {
        if (random.nextInt(60) == 0) {
            same("empty()", x.empty(), y.empty());
            return 1;
        }
        if (random.nextInt(3) == 0) {
            int i = about(0, 39);
            same("sent(" + i + ")", x.sent(i), y.sent(i));
            return 1;
        }
        int w = word();
        same("send(" + w + ")", x.send(w), y.send(w));
        return 1;
    }

    private static int rowFigures() {
        switch (random.nextInt(4)) {
            case 0: {
                int what = random.nextBoolean() ? about(0, 4) : about(10, 14);
                same("row(" + what + ")", x.row(what), y.row(what));
                return 1;
            }
            case 1: {
                int k = about(0, 4);
                int what = about(0, 1);
                same("shields(" + k + ", " + what + ")", x.shields(k, what), y.shields(k, what));
                return 1;
            }
            default: {
                int way = about(0, 3);
                int what = about(0, 3);
                same("turned(" + way + ", " + what + ")", x.turned(way, what), y.turned(way, what));
                return 1;
            }
        }
    }

    private static int books() {
        int kind = about(0, 1);
        switch (random.nextInt(4)) {
            case 0:
                same("book(" + kind + ")", x.book(kind), y.book(kind));
                return 1;
            case 1: {
                int place = random.nextBoolean() ? about(0, 70) : word();
                same("word(" + kind + ", " + place + ")", x.word(kind, place), y.word(kind, place));
                return 1;
            }
            case 2: {
                int w = word();
                same("place(" + kind + ", " + w + ")", x.place(kind, w), y.place(kind, w));
                return 1;
            }
            default:
                if (y.n <= 6 || random.nextInt(10) == 0) {
                    same("slowest(" + kind + ")", x.slowest(kind), y.slowest(kind));
                }
                return 1;
        }
    }

    /** Over many wires the model takes long for these; so they come less often there. */
    private static int machines() {
        int k = about(0, 4);
        if (random.nextBoolean()) {
            int w = word();
            same("ways(" + k + ", " + w + ")", x.ways(k, w), y.ways(k, w));
            return 1;
        }
        if (y.n > 5 && random.nextInt(40) != 0) {
            return 1;
        }
        int b = random.nextBoolean() ? about(0, 8) : about(0, 3);
        switch (random.nextInt(4)) {
            case 0: {
                int what = about(0, 1);
                same("kept(" + k + ", " + b + ", " + what + ")", x.kept(k, b, what), y.kept(k, b, what));
                return 1;
            }
            case 1:
                same("bits(" + k + ")", x.bits(k), y.bits(k));
                return 1;
            case 2: {
                int v = random.nextInt(5) == 0 ? about(0, 7) : random.nextInt() & Integer.MAX_VALUE;
                int count = about(0, 8);
                String call = "encode(" + k + ", " + b + ", " + v + ", " + count + ")";
                same(call, x.encode(k, b, v, count), y.encode(k, b, v, count));
                return 1;
            }
            default: {
                int from = word();
                int to = word();
                String call = "decode(" + k + ", " + b + ", " + from + ", " + to + ")";
                same(call, x.decode(k, b, from, to), y.decode(k, b, from, to));
                return 1;
            }
        }
    }

    private static int sheets() {
        int k = about(0, 3);
        int lane = about(0, 2);
        switch (random.nextInt(12)) {
            case 0: {
                int cells = about(0, 40);
                same("sheet(" + k + ", " + lane + ", " + cells + ")", x.sheet(k, lane, cells), y.sheet(k, lane, cells));
                return 1;
            }
            case 1: case 2: case 3: case 4: {
                int f = about(0, 39);
                int m = random.nextInt(4) == 0 ? about(0, 40) : about(0, 3);
                String call = "read(" + k + ", " + lane + ", " + f + ", " + m + ")";
                same(call, x.read(k, lane, f, m), y.read(k, lane, f, m));
                same("torn() of " + call, x.torn(), y.torn);
                return 2;
            }
            default: {
                int i = about(0, 30);
                int v = random.nextInt(9) == 0 ? random.nextInt() : word();
                same("lay(" + k + ", " + i + ", " + v + ")", x.lay(k, i, v), y.lay(k, i, v));
                return 1;
            }
        }
    }

    /** All orders and all books take the model long, so they are asked only at times. */
    private static int slowSearches() {
        int what = about(0, 1);
        if (y.n <= 5 || y.n <= 7 && random.nextInt(8) == 0 || random.nextInt(60) == 0) {
            same("best(" + what + ")", x.best(what), y.best(what));
        }
        if (y.n != 4 || random.nextInt(10) == 0) {
            int k = about(0, 4);
            same("greatest(" + k + ", " + what + ")", x.greatest(k, what), y.greatest(k, what));
        }
        return 2;
    }

    private static int counts() {
        int what = about(0, 6);
        same("count(" + what + ")", x.count(what), y.count(what));
        return 1;
    }
}
