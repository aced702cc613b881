import java.util.ArrayList;
import java.util.Arrays;
import java.util.List;
import java.util.regex.Matcher;
import java.util.regex.Pattern;

/**
 * The document's terms once more, written as slowly and as literally as they stand, by other
 * means than the class: moves in arrays, all orders tried, the machine's own faults caught.
 */
final class Model {
    int n;
    int own;
    int side;
    int[] order;
    boolean[] shields;
    List<Integer> row;
    final Object[] sheets = new Object[4];
    final List<Byte> tape = new ArrayList<>();
    int fault = 0;
    int torn = 0;

    Model() {
        reset();
    }

    private void reset() {
        n = 4;
        own = 1;
        side = 1;
        row = new ArrayList<>();
        byNumbers();
    }

    private void byNumbers() {
        order = new int[n];
        for (int i = 0; i < n; i++) {
            order[i] = i;
        }
        shields = new boolean[n];
    }

    // ---- the text

    int feed(long v) {
        if (tape.size() + 8 > 240) {
            return -3;
        }
        for (int i = 7; i >= 0; i--) {
            tape.add((byte) (v >> 8 * i));
        }
        return tape.size();
    }

    int end(int k) {
        int had = tape.size();
        if (k < 0 || k > had) {
            return -1;
        }
        tape.subList(k, had).clear();
        return had;
    }

    private static final Pattern TOKEN = Pattern.compile("\\G *(?:([a-z]+)|([0-9]+)|(;))");

    /** One token: its place and what it is; a number's figures, a name, ";", "" at the end, "?". */
    private record Token(int place, String is) {
    }

    private static List<Token> tokens(String text) {
        List<Token> all = new ArrayList<>();
        Matcher m = TOKEN.matcher(text);
        int behind = 0;
        while (m.find()) {
            for (int g = 1; g <= 3; g++) {
                if (m.group(g) != null) {
                    all.add(new Token(m.start(g), m.group(g)));
                }
            }
            behind = m.end();
        }
        while (behind < text.length() && text.charAt(behind) == ' ') {
            behind++;
        }
        all.add(new Token(behind, behind == text.length() ? "" : "?"));
        return all;
    }

    int text() {
        StringBuilder s = new StringBuilder();
        for (byte b : tape) {
            s.append((char) (b & 255));
        }
        tape.clear();
        Model fresh = new Model();
        int[] place = new int[1];
        int lines = fresh.tell(tokens(s.toString()), place);
        fault = fresh.fault;
        if (fault != 0) {
            return -10 - place[0];
        }
        n = fresh.n;
        own = fresh.own;
        side = fresh.side;
        order = fresh.order;
        shields = fresh.shields;
        row = fresh.row;
        return lines;
    }

    private int tell(List<Token> tokens, int[] place) {
        List<String> line = new ArrayList<>();
        List<String> begun = new ArrayList<>();
        int lines = 0;
        for (Token t : tokens) {
            place[0] = t.place();
            if (t.is().isEmpty() && line.isEmpty()) {
                return lines;
            }
            fault = faultOf(t.is(), line, begun);
            if (fault != 0) {
                return 0;
            }
            line.add(t.is());
            if (line.size() == 1) {
                begun.add(t.is());
            }
            if (t.is().equals(";")) {
                line.clear();
                lines++;
            }
        }
        throw new IllegalStateException("the end is a token, too");
    }

    private int faultOf(String is, List<String> line, List<String> begun) {
        boolean isName = is.matches("[a-z]+");
        boolean isNumber = is.matches("[0-9]+");
        List<String> names = List.of("wires", "own", "side", "shield", "send", "step");
        if (is.equals("?") || isName && !names.contains(is) || is.matches("[0-9]{4,}")) {
            return 1;
        }
        if (line.isEmpty()) {
            if (!isName) {
                return 2;
            }
            boolean once = is.equals("wires") || is.equals("own") || is.equals("side");
            boolean late = is.equals("wires")
                && (begun.contains("shield") || begun.contains("send") || begun.contains("step"));
            return once && begun.contains(is) || late ? 4 : 0;
        }
        String name = line.get(0);
        int numbers = line.size() - 1;
        int due = name.equals("step") ? 3 : 1;
        if (is.equals(";")) {
            return numbers >= due ? 0 : 2;
        }
        if (!isNumber || numbers >= due && !name.equals("send")) {
            return 2;
        }
        return tellNumber(name, line, Integer.parseInt(is));
    }

    private int tellNumber(String name, List<String> line, int v) {
        switch (name + (name.equals("step") ? line.size() : "")) {
            case "wires":
                n = v;
                if (v < 2 || v > 8) {
                    return 3;
                }
                byNumbers();
                return 0;
            case "own":
                own = v;
                return v > 99 ? 3 : 0;
            case "side":
                side = v;
                return v > 99 ? 3 : 0;
            case "shield":
                if (v > n - 2) {
                    return 3;
                }
                boolean had = shields[v];
                shields[v] = true;
                return had ? 4 : 0;
            case "send":
                return v >= 1 << n ? 3 : send(v) < 0 ? 5 : 0;
            case "step1":
                return v >= 1 << n ? 3 : 0;
            case "step2":
                return v > 255 ? 3 : 0;
            default:
                if (v < 1 || v > 40) {
                    return 3;
                }
                if (row.size() + v > 40) {
                    return 5;
                }
                int word = Integer.parseInt(line.get(1));
                for (int i = 0; i < v; i++) {
                    row.add(word);
                    word = (word + Integer.parseInt(line.get(2))) % (1 << n);
                }
                return 0;
        }
    }

    // ---- wires

    int order(int figures) {
        String s = String.valueOf(figures);
        while (s.length() < n) {
            s = "0" + s;
        }
        char[] sorted = s.toCharArray();
        Arrays.sort(sorted);
        if (figures < 0 || !"01234567".substring(0, n).equals(new String(sorted))) {
            return -1;
        }
        for (int i = 0; i < n; i++) {
            order[i] = s.charAt(i) - '0';
        }
        return 1;
    }

    int shield(int g, boolean is) {
        if (g < 0 || g > n - 2) {
            return -1;
        }
        int had = shields[g] ? 1 : 0;
        shields[g] = is;
        return had;
    }

    int at(int place, int what) {
        if (place < 0 || place >= n || what < 0 || what > 1) {
            return -1;
        }
        return what == 0 ? order[place] : shields[place] ? 1 : 0;
    }

    private boolean word(int w) {
        return w >= 0 && w < 1 << n;
    }

    private static int[] moves(int[] order, int from, int to) {
        int[] m = new int[order.length];
        for (int p = 0; p < m.length; p++) {
            m[p] = (to >> order[p] & 1) - (from >> order[p] & 1);
        }
        return m;
    }

    /** What is against the wire at a place over the gap to its neighbour at another one. */
    private static int against(int[] m, boolean[] shields, int place, int other) {
        if (other < 0 || other >= m.length) {
            return 0;
        }
        return shields[Math.min(place, other)] ? Math.abs(m[place]) : Math.abs(m[place] - m[other]);
    }

    private int costOf(int[] m, boolean[] shields) {
        int cost = 0;
        for (int move : m) {
            cost += own * Math.abs(move);
        }
        for (int g = 0; g + 1 < m.length; g++) {
            int a = against(m, shields, g, g + 1);
            int b = against(m, shields, g + 1, g);
            cost += side * (shields[g] ? a * a + b * b : a * a);
        }
        return cost;
    }

    private static int slowAt(int[] m, boolean[] shields, int p) {
        return m[p] == 0 ? 0 : against(m, shields, p, p - 1) + against(m, shields, p, p + 1);
    }

    private static int slowOf(int[] m, boolean[] shields) {
        int slow = 0;
        for (int p = 0; p < m.length; p++) {
            slow = Math.max(slow, slowAt(m, shields, p));
        }
        return slow;
    }

    private static int noiseOf(int[] m, boolean[] shields) {
        int noise = 0;
        for (int p = 0; p < m.length; p++) {
            int left = p > 0 && !shields[p - 1] ? m[p - 1] : 0;
            int right = p + 1 < m.length && !shields[p] ? m[p + 1] : 0;
            noise = m[p] == 0 ? Math.max(noise, Math.abs(left + right)) : noise;
        }
        return noise;
    }

    int change(int from, int to, int what) {
        if (!word(from) || !word(to) || what < 0 || what > 3) {
            return -1;
        }
        int[] m = moves(order, from, to);
        int moved = Integer.bitCount(from ^ to);
        return what == 0 ? costOf(m, shields) : what == 1 ? slowOf(m, shields)
            : what == 2 ? noiseOf(m, shields) : moved;
    }

    int slow(int from, int to, int wire) {
        if (!word(from) || !word(to) || wire < 0 || wire >= n) {
            return -1;
        }
        int p = 0;
        while (order[p] != wire) {
            p++;
        }
        return slowAt(moves(order, from, to), shields, p);
    }

    // ---- the row

    int send(int w) {
        if (!word(w)) {
            return -1;
        }
        if (row.size() == 40) {
            return -3;
        }
        row.add(w);
        return row.size();
    }

    int empty() {
        int had = row.size();
        row.clear();
        return had;
    }

    int sent(int i) {
        return i >= 0 && i < row.size() ? row.get(i) : -1;
    }

    private int[] changesOf(int what) {
        int[] all = new int[row.size()];
        for (int i = 0; i < all.length; i++) {
            all[i] = change(i == 0 ? 0 : row.get(i - 1), row.get(i), what);
        }
        return all;
    }

    int row(int what) {
        if (what == 0 || what == 3) {
            return Arrays.stream(changesOf(what)).sum();
        }
        if (what == 1 || what == 2) {
            return Arrays.stream(changesOf(what)).max().orElse(0);
        }
        int[] slows = changesOf(1);
        if (what == 4) {
            for (int i = 0; i < slows.length; i++) {
                if (slows[i] == row(1)) {
                    return i;
                }
            }
            return -4;
        }
        return what < 10 || what > 14 ? -1 : (int) Arrays.stream(slows).filter(s -> s == what - 10).count();
    }

    private int leastCost;
    private int leastOrder;

    int best(int what) {
        if (what < 0 || what > 1) {
            return -1;
        }
        leastCost = Integer.MAX_VALUE;
        tryOrders(new int[n], 0, 0);
        return what == 0 ? leastCost : leastOrder;
    }

    private void tryOrders(int[] tried, int placed, int used) {
        if (placed < n) {
            for (int w = 0; w < n; w++) {
                if ((used >> w & 1) == 0) {
                    tried[placed] = w;
                    tryOrders(tried, placed + 1, used | 1 << w);
                }
            }
            return;
        }
        int cost = 0;
        for (int i = 0; i < row.size(); i++) {
            cost += costOf(moves(tried, i == 0 ? 0 : row.get(i - 1), row.get(i)), new boolean[n]);
        }
        if (cost < leastCost) {
            leastCost = cost;
            leastOrder = 0;
            for (int w : tried) {
                leastOrder = leastOrder * 10 + w;
            }
        }
    }

    int shields(int k, int what) {
        if (k < 0 || k > 4 || what < 0 || what > 1) {
            return -1;
        }
        for (int many = 0; many < n; many++) {
            for (int bits = 0; bits < 1 << n - 1; bits++) {
                if (Integer.bitCount(bits) == many && slowestWith(bits) <= k) {
                    return what == 0 ? many : bits;
                }
            }
        }
        return -4;
    }

    private int slowestWith(int bits) {
        boolean[] tried = new boolean[n];
        for (int g = 0; g < n; g++) {
            tried[g] = (bits >> g & 1) == 1;
        }
        int slow = 0;
        for (int i = 0; i < row.size(); i++) {
            slow = Math.max(slow, slowOf(moves(order, i == 0 ? 0 : row.get(i - 1), row.get(i)), tried));
        }
        return slow;
    }

    /** The moves of a change of n and 1 wires; the one more has the bit n. */
    private int[] wideMoves(int from, int to) {
        int[] wide = Arrays.copyOf(order, n + 1);
        wide[n] = n;
        return moves(wide, from, to);
    }

    private int wide(int word, int turn) {
        return turn == 0 ? word : (1 << n + 1) - 1 - word;
    }

    private int wideCost(int from, int to) {
        return costOf(wideMoves(from, to), Arrays.copyOf(shields, n + 1));
    }

    /** A string of 0 and 1, whether each word is turned. */
    private String turns(int way) {
        if (way == 3) {
            return leastTurns();
        }
        StringBuilder turns = new StringBuilder();
        int lies = 0;
        for (int w : row) {
            int straight = wide(w, 0);
            int round = wide(w, 1);
            int would = Integer.bitCount((lies ^ w) % (1 << n));
            boolean turn = way == 1 && would > n / 2.0 || way == 2 && wideCost(lies, round) < wideCost(lies, straight);
            turns.append(turn ? 1 : 0);
            lies = turn ? round : straight;
        }
        return turns.toString();
    }

    /** Forward: of all ways to either state the cheapest, of these the least string. */
    private String leastTurns() {
        int[] costs = {0, Integer.MAX_VALUE / 2};
        String[] paths = {"", "?"};
        int lies = 0;
        for (int w : row) {
            int[] nextCosts = new int[2];
            String[] nextPaths = new String[2];
            for (int turn = 0; turn < 2; turn++) {
                int a = costs[0] + wideCost(wide(lies, 0), wide(w, turn));
                int b = costs[1] + wideCost(wide(lies, 1), wide(w, turn));
                boolean first = a < b || a == b && paths[0].compareTo(paths[1]) < 0;
                nextCosts[turn] = Math.min(a, b);
                nextPaths[turn] = (first ? paths[0] : paths[1]) + turn;
            }
            costs = nextCosts;
            paths = nextPaths;
            lies = w;
        }
        boolean first = costs[0] < costs[1] || costs[0] == costs[1] && paths[0].compareTo(paths[1]) < 0;
        return first ? paths[0] : paths[1];
    }

    int turned(int way, int what) {
        if (way < 0 || way > 3 || what < 0 || what > 3) {
            return -1;
        }
        String turns = turns(way);
        int cost = 0;
        int slow = 0;
        int lies = 0;
        for (int i = 0; i < row.size(); i++) {
            int next = wide(row.get(i), turns.charAt(i) - '0');
            cost += wideCost(lies, next);
            slow = Math.max(slow, slowOf(wideMoves(lies, next), Arrays.copyOf(shields, n + 1)));
            lies = next;
        }
        int first = turns.indexOf('1');
        return what == 0 ? cost : what == 1 ? turns.replace("0", "").length()
            : what == 2 ? (first < 0 ? -4 : first) : slow;
    }

    // ---- books

    private List<Integer> bookOf(int kind) {
        List<Integer> words = new ArrayList<>();
        for (int w = 0; w < 1 << n; w++) {
            boolean in = true;
            for (int g = 0; g + 1 < n; g++) {
                int a = w >> g & 1;
                int b = w >> g + 1 & 1;
                in &= kind == 0 || !(g % 2 == 0 ? a == 0 && b == 1 : a == 1 && b == 0);
                in &= kind == 1 || g == 0 || a == b || a == (w >> g - 1 & 1);
            }
            if (in) {
                words.add(w);
            }
        }
        return words;
    }

    int book(int kind) {
        return kind < 0 || kind > 1 ? -1 : bookOf(kind).size();
    }

    int word(int kind, int place) {
        if (kind < 0 || kind > 1 || place < 0) {
            return -1;
        }
        return place < bookOf(kind).size() ? bookOf(kind).get(place) : -4;
    }

    int place(int kind, int word) {
        if (kind < 0 || kind > 1 || !word(word)) {
            return -1;
        }
        int place = bookOf(kind).indexOf(word);
        return place < 0 ? -4 : place;
    }

    private int plainSlow(int from, int to) {
        int[] plain = {0, 1, 2, 3, 4, 5, 6, 7};
        return slowOf(moves(Arrays.copyOf(plain, n), from, to), new boolean[n]);
    }

    int slowest(int kind) {
        if (kind < 0 || kind > 1) {
            return -1;
        }
        int slow = 0;
        for (int from : bookOf(kind)) {
            for (int to : bookOf(kind)) {
                slow = Math.max(slow, plainSlow(from, to));
            }
        }
        return slow;
    }

    int greatest(int k, int what) {
        if (k < 0 || k > 4 || what < 0 || what > 1) {
            return -1;
        }
        if (n > 4) {
            return -2;
        }
        int best = 0;
        for (int set = 1; set > 0 && set >> (1 << n) == 0; set++) {
            boolean worse = Integer.bitCount(set) < Integer.bitCount(best);
            if (!worse && isBook(set, k) && isBetter(set, best)) {
                best = set;
            }
        }
        return what == 0 ? Integer.bitCount(best) : best;
    }

    private boolean isBook(int set, int k) {
        for (int a = 0; a < 1 << n; a++) {
            for (int b = 0; b < a; b++) {
                if ((set >> a & set >> b & 1) == 1 && plainSlow(a, b) > k) {
                    return false;
                }
            }
        }
        return true;
    }

    private static boolean isBetter(int set, int than) {
        int lowestUnlike = Integer.lowestOneBit(set ^ than);
        int more = Integer.bitCount(set) - Integer.bitCount(than);
        return more > 0 || more == 0 && (set & lowestUnlike) != 0;
    }

    // ---- machines

    private List<Integer> waysOf(int k, int word, List<Integer> among) {
        List<Integer> ways = new ArrayList<>();
        for (int to : among) {
            if (plainSlow(word, to) <= k) {
                ways.add(to);
            }
        }
        return ways;
    }

    private List<Integer> allWords() {
        List<Integer> all = new ArrayList<>();
        for (int w = 0; w < 1 << n; w++) {
            all.add(w);
        }
        return all;
    }

    int ways(int k, int word) {
        return k < 0 || k > 4 || !word(word) ? -1 : waysOf(k, word, allWords()).size();
    }

    private List<Integer> keptOf(int k, int b) {
        List<Integer> left = allWords();
        while (true) {
            List<Integer> stay = new ArrayList<>();
            for (int w : left) {
                if (waysOf(k, w, left).size() >= 1 << b) {
                    stay.add(w);
                }
            }
            if (stay.size() == left.size()) {
                return left;
            }
            left = stay;
        }
    }

    int kept(int k, int b, int what) {
        if (k < 0 || k > 4 || b < 0 || b > 8 || what < 0 || what > 1) {
            return -1;
        }
        List<Integer> kept = keptOf(k, b);
        return what == 0 ? kept.size() : kept.isEmpty() ? -4 : kept.get(0);
    }

    int bits(int k) {
        if (k < 0 || k > 4) {
            return -1;
        }
        int b = 8;
        while (keptOf(k, b).isEmpty()) {
            b--;
        }
        return b;
    }

    int encode(int k, int b, int v, int count) {
        boolean asTold = k >= 0 && k <= 4 && b >= 0 && b <= 8 && v >= 0 && count >= 0 && count <= 8;
        if (!asTold || b * count > 31) {
            return -1;
        }
        List<Integer> kept = keptOf(k, b);
        if (kept.isEmpty()) {
            return -2;
        }
        int word = kept.get(0);
        int rest = v;
        for (int i = 0; i < count; i++) {
            word = waysOf(k, word, kept).get(rest % (1 << b));
            rest /= 1 << b;
        }
        return word;
    }

    int decode(int k, int b, int from, int to) {
        if (k < 0 || k > 4 || b < 0 || b > 8 || !word(from) || !word(to)) {
            return -1;
        }
        List<Integer> kept = keptOf(k, b);
        if (kept.isEmpty()) {
            return -2;
        }
        int number = kept.contains(from) ? waysOf(k, from, kept).indexOf(to) : -1;
        return number < 0 || number >= 1 << b ? -4 : number;
    }

    // ---- sheets

    int sheet(int k, int lane, int cells) {
        if (k < 0 || k > 3 || lane < 0 || lane > 2 || cells > 40) {
            return -1;
        }
        try {
            sheets[k] = lane == 0 ? new byte[cells] : lane == 1 ? new short[cells] : new int[cells];
            return 1;
        } catch (NegativeArraySizeException e) {
            return -14;
        }
    }

    int lay(int k, int i, int v) {
        if (k < 0 || k > 3) {
            return -1;
        }
        try {
            if (sheets[k] instanceof byte[] bytes) {
                bytes[i] = (byte) v;
            } else if (sheets[k] instanceof short[] shorts) {
                shorts[i] = (short) v;
            } else {
                ((int[]) sheets[k])[i] = v;
            }
            return 1;
        } catch (NullPointerException e) {
            return -11;
        } catch (ArrayIndexOutOfBoundsException e) {
            return -12;
        }
    }

    private static int cell(Object sheet, int lane, int i) {
        return lane == 0 ? ((byte[]) sheet)[i] : lane == 1 ? ((short[]) sheet)[i] : ((int[]) sheet)[i];
    }

    int read(int k, int lane, int f, int m) {
        if (k < 0 || k > 3 || lane < 0 || lane > 2 || m < 0 || m > 40) {
            return -1;
        }
        List<Integer> came = new ArrayList<>();
        int found = 0;
        try {
            for (int i = 0; i < m; i++) {
                int v = cell(sheets[k], lane, f + i);
                if (!word(v)) {
                    return -20 - i;
                }
                if (row.size() + came.size() == 40) {
                    return -3;
                }
                came.add(v);
            }
        } catch (NullPointerException e) {
            found = 1;
        } catch (ArrayIndexOutOfBoundsException e) {
            found = 2;
        } catch (ClassCastException e) {
            found = 3;
        }
        torn = found;
        row.addAll(came);
        return came.size();
    }

    int count(int what) {
        int shielded = 0;
        for (boolean is : shields) {
            shielded += is ? 1 : 0;
        }
        int cells = sheets[0] == null ? -4 : java.lang.reflect.Array.getLength(sheets[0]);
        int[] counts = {n, own, side, shielded, row.size(), tape.size(), cells};
        return what < 0 || what >= counts.length ? -1 : counts[what];
    }
}
