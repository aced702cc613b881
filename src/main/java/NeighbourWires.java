/**
 * Words sent over wires that lie next to one another. The document (../shared/DOC.md)
 * says what each call answers; its words are used here for the same things.
 */
public final class NeighbourWires {
    public static final int BAD = -1, STATE = -2, FULL = -3, NONE = -4;

    private static final int FEWEST_WIRES = 2, MOST_WIRES = 8;
    private static final int ROW_ROOM = 40, TAPE_ROOM = 240, CELL_ROOM = 40, SHEETS = 4;
    private static final int MOST_SLOW = 4, MOST_BITS = 8, MOST_NUMBERS = 8, INT_BITS = 31;
    private static final int MOST_PRICE = 99, MOST_STEP = 255;
    private static final int FAULT_BASE = -10, CELL_BASE = -20, SLOW_BASE = 10;
    private static final int NULL = 1, INDEX = 2, CAST = 3, SIZE = 4;

    private final Plan plan;
    private final Change change;
    private final Reader reader;
    private final Orders orders;
    private final Turns turns;
    private final Machine machine;
    private final Sheet[] sheets;
    private int torn;

    public NeighbourWires() {
        plan = new Plan();
        change = new Change();
        reader = new Reader();
        orders = new Orders(plan);
        turns = new Turns(plan, change);
        machine = new Machine(change);
        sheets = new Sheet[SHEETS];
        for (int k = 0; k < sheets.length; k++) {
            sheets[k] = new Sheet();
        }
    }

    // ---- the text

    public int feed(long v) {
        return reader.tape.append(v) ? reader.tape.size : FULL;
    }

    public int end(int n) {
        int had = reader.tape.size;
        return reader.tape.cut(n) ? had : BAD;
    }

    public int text() {
        int answer = reader.readText();
        if (answer >= 0) {
            plan.copy(reader.told);
        }
        reader.tape.cut(0);
        return answer;
    }

    public int fault() {
        return reader.fault;
    }

    // ---- wires

    public int order(int figures) {
        return plan.reorder(figures) ? 1 : BAD;
    }

    public int shield(int g, boolean is) {
        if (!plan.isGap(g)) {
            return BAD;
        }
        int had = plan.shieldAt(g);
        plan.putShield(g, is);
        return had;
    }

    public int at(int place, int what) {
        if (!plan.isWire(place)) {
            return BAD;
        }
        switch (what) {
            case 0: return plan.wireAt(place);
            case 1: return plan.shieldAt(place);
            default: return BAD;
        }
    }

    public int change(int from, int to, int what) {
        if (!plan.isWord(from) || !plan.isWord(to)) {
            return BAD;
        }
        weigh(from, to);
        switch (what) {
            case 0: return change.cost(plan.own, plan.side);
            case 1: return change.greatestSlow();
            case 2: return change.noise();
            case 3: return change.moves();
            default: return BAD;
        }
    }

    public int slow(int from, int to, int wire) {
        if (!plan.isWord(from) || !plan.isWord(to) || !plan.isWire(wire)) {
            return BAD;
        }
        weigh(from, to);
        return change.slowAt(plan.placeOf(wire));
    }

    private void weigh(int from, int to) {
        change.between(plan.byPlaces(from), plan.byPlaces(to), plan.wires, plan.shields);
    }

    // ---- the row

    public int send(int word) {
        if (!plan.isWord(word)) {
            return BAD;
        }
        return plan.append(word) ? plan.length : FULL;
    }

    public int empty() {
        int had = plan.length;
        plan.length = 0;
        return had;
    }

    public int sent(int i) {
        return i >= 0 && i < plan.length ? plan.wordAt(i) : BAD;
    }

    public int row(int what) {
        boolean countsSlow = what >= SLOW_BASE && what <= SLOW_BASE + MOST_SLOW;
        if (!countsSlow && (what < 0 || what > 4)) {
            return BAD;
        }
        if (what == 4 && plan.length == 0) {
            return NONE;
        }
        int cost = 0;
        int slowest = 0;
        int loudest = 0;
        int moves = 0;
        int first = 0;
        int counted = 0;
        for (int i = 0; i < plan.length; i++) {
            weigh(plan.wordAt(i - 1), plan.wordAt(i));
            int slow = change.greatestSlow();
            if (slow > slowest) {
                slowest = slow;
                first = i;
            }
            if (slow == what - SLOW_BASE) {
                counted++;
            }
            cost += change.cost(plan.own, plan.side);
            loudest = Math.max(loudest, change.noise());
            moves += change.moves();
        }
        switch (what) {
            case 0: return cost;
            case 1: return slowest;
            case 2: return loudest;
            case 3: return moves;
            case 4: return first;
            default: return counted;
        }
    }

    public int best(int what) {
        if (what < 0 || what > 1) {
            return BAD;
        }
        orders.search();
        return what == 0 ? orders.leastCost() : orders.leastFigures();
    }

    public int shields(int k, int what) {
        if (!isSlow(k) || what < 0 || what > 1) {
            return BAD;
        }
        int best = leastShields(k);
        if (best < 0) {
            return NONE;
        }
        return what == 0 ? Integer.bitCount(best) : best;
    }

    /** The fewest shields, as bits, or -1. A shield can also slow a wire, so every set is tried. */
    private int leastShields(int k) {
        plan.layOut();
        int best = -1;
        for (int tried = 0; tried < 1 << (plan.wires - 1); tried++) {
            boolean fewer = best < 0 || Integer.bitCount(tried) < Integer.bitCount(best);
            if (fewer && slowestBehind(tried) <= k) {
                best = tried;
            }
        }
        return best;
    }

    /** The greatest SLOW of the laid out row, as if these shields stood. */
    private int slowestBehind(int shields) {
        int slowest = 0;
        for (int i = 0; i < plan.length; i++) {
            change.between(plan.laidBefore(i), plan.laidBefore(i + 1), plan.wires, shields);
            slowest = Math.max(slowest, change.greatestSlow());
        }
        return slowest;
    }

    public int turned(int way, int what) {
        if (way < 0 || way > 3 || what < 0 || what > 3) {
            return BAD;
        }
        turns.sendAll(way);
        switch (what) {
            case 0: return turns.cost;
            case 1: return turns.count;
            case 2: return turns.first;
            default: return turns.slowest;
        }
    }

    // ---- books

    public int book(int kind) {
        return isKind(kind) ? lesser(kind, plan.words()) : BAD;
    }

    public int word(int kind, int place) {
        if (!isKind(kind) || place < 0) {
            return BAD;
        }
        int lesser = 0;
        for (int word = 0; word < plan.words(); word++) {
            if (isInBook(kind, word)) {
                if (lesser == place) {
                    return word;
                }
                lesser++;
            }
        }
        return NONE;
    }

    public int place(int kind, int word) {
        if (!isKind(kind) || !plan.isWord(word)) {
            return BAD;
        }
        return isInBook(kind, word) ? lesser(kind, word) : NONE;
    }

    public int slowest(int kind) {
        if (!isKind(kind)) {
            return BAD;
        }
        int slowest = 0;
        for (int to = 0; to < plan.words(); to++) {
            if (isInBook(kind, to)) {
                slowest = Math.max(slowest, slowestInto(kind, to));
            }
        }
        return slowest;
    }

    /** The greatest SLOW from the lesser words of a book to one of its words; it is the same back. */
    private int slowestInto(int kind, int to) {
        int slowest = 0;
        for (int from = 0; from < to; from++) {
            if (isInBook(kind, from)) {
                change.between(from, to, plan.wires, 0);
                slowest = Math.max(slowest, change.greatestSlow());
            }
        }
        return slowest;
    }

    public int greatest(int k, int what) {
        if (!isSlow(k) || what < 0 || what > 1) {
            return BAD;
        }
        if (plan.wires > Machine.BOOK_WIRES) {
            return STATE;
        }
        machine.prepare(plan.wires);
        int book = machine.greatestBook(k);
        return what == 0 ? Integer.bitCount(book) : book;
    }

    private int lesser(int kind, int bound) {
        int lesser = 0;
        for (int word = 0; word < bound; word++) {
            if (isInBook(kind, word)) {
                lesser++;
            }
        }
        return lesser;
    }

    private boolean isInBook(int kind, int word) {
        int gaps = (1 << (plan.wires - 1)) - 1;
        int behind = word >> 1;
        if (kind == 0) {
            int unlike = (word ^ behind) & gaps;
            return (unlike & (unlike >> 1)) == 0;
        }
        int evenGaps = 0x55 & gaps;
        int oddGaps = 0xAA & gaps;
        return (~word & behind & evenGaps) == 0 && (word & ~behind & oddGaps) == 0;
    }

    private static boolean isKind(int kind) {
        return kind == 0 || kind == 1;
    }

    private static boolean isSlow(int k) {
        return k >= 0 && k <= MOST_SLOW;
    }

    // ---- machines

    public int ways(int k, int word) {
        if (!isSlow(k) || !plan.isWord(word)) {
            return BAD;
        }
        machine.prepare(plan.wires);
        return machine.waysFrom(k, word);
    }

    public int kept(int k, int b, int what) {
        if (!isSlow(k) || !isBits(b) || what < 0 || what > 1) {
            return BAD;
        }
        int count = keep(k, b);
        if (what == 0) {
            return count;
        }
        return count == 0 ? NONE : machine.seenNumbered(0);
    }

    public int bits(int k) {
        if (!isSlow(k)) {
            return BAD;
        }
        int most = 0;
        for (int b = 1; b <= MOST_BITS; b++) {
            if (keep(k, b) > 0) {
                most = b;
            }
        }
        return most;
    }

    public int encode(int k, int b, int v, int count) {
        boolean isCount = count >= 0 && count <= MOST_NUMBERS;
        if (!isSlow(k) || !isBits(b) || v < 0 || !isCount || b * count > INT_BITS) {
            return BAD;
        }
        if (keep(k, b) == 0) {
            return STATE;
        }
        int word = machine.seenNumbered(0);
        for (int i = 0; i < count; i++) {
            int number = (v >> (b * i)) & ((1 << b) - 1);
            machine.lookFrom(k, word);
            word = machine.seenNumbered(number);
        }
        return word;
    }

    public int decode(int k, int b, int from, int to) {
        if (!isSlow(k) || !isBits(b) || !plan.isWord(from) || !plan.isWord(to)) {
            return BAD;
        }
        if (keep(k, b) == 0) {
            return STATE;
        }
        if (!machine.isSeen(from)) {
            return NONE;
        }
        machine.lookFrom(k, from);
        int number = machine.seenBelow(to);
        return machine.isSeen(to) && number < 1 << b ? number : NONE;
    }

    private int keep(int k, int b) {
        machine.prepare(plan.wires);
        return machine.keep(k, b);
    }

    private static boolean isBits(int b) {
        return b >= 0 && b <= MOST_BITS;
    }

    // ---- sheets

    public int sheet(int k, int lane, int n) {
        if (!isSheet(k) || !isLane(lane) || n > CELL_ROOM) {
            return BAD;
        }
        if (n < 0) {
            return FAULT_BASE - SIZE;
        }
        sheets[k].renew(lane, n);
        return 1;
    }

    public int lay(int k, int i, int v) {
        if (!isSheet(k)) {
            return BAD;
        }
        Sheet sheet = sheets[k];
        int fault = sheet.faultAs(sheet.lane, i);
        if (fault != 0) {
            return FAULT_BASE - fault;
        }
        sheet.put(i, v);
        return 1;
    }

    public int read(int k, int lane, int f, int m) {
        if (!isSheet(k) || !isLane(lane) || m < 0 || m > CELL_ROOM) {
            return BAD;
        }
        Sheet sheet = sheets[k];
        int fault = 0;
        int came = 0;
        while (came < m) {
            fault = sheet.faultAs(lane, f + came);
            if (fault != 0) {
                break;
            }
            if (!plan.isWord(sheet.cell(f + came))) {
                return CELL_BASE - came;
            }
            if (plan.length + came >= ROW_ROOM) {
                return FULL;
            }
            came++;
        }
        for (int i = 0; i < came; i++) {
            plan.append(sheet.cell(f + i));
        }
        torn = fault;
        return came;
    }

    public int torn() {
        return torn;
    }

    public int count(int what) {
        switch (what) {
            case 0: return plan.wires;
            case 1: return plan.own;
            case 2: return plan.side;
            case 3: return Integer.bitCount(plan.shields);
            case 4: return plan.length;
            case 5: return reader.tape.size;
            case 6: return sheets[0].isNothing() ? NONE : sheets[0].size;
            default: return BAD;
        }
    }

    private static boolean isSheet(int k) {
        return k >= 0 && k < SHEETS;
    }

    private static boolean isLane(int lane) {
        return lane >= Sheet.BYTES && lane <= Sheet.INTS;
    }

    /** What a text tells: the wires, how they lie, what they cost, and the row. */
    private static final class Plan {
        int wires;
        int own;
        int side;
        int shields;
        int length;
        private final int[] wireAt = new int[MOST_WIRES];
        private final int[] row = new int[ROW_ROOM];
        private final int[] laid = new int[ROW_ROOM];

        Plan() {
            reset();
        }

        void reset() {
            wires = 4;
            own = 1;
            side = 1;
            shields = 0;
            length = 0;
            for (int place = 0; place < wireAt.length; place++) {
                wireAt[place] = place;
            }
        }

        void copy(Plan other) {
            wires = other.wires;
            own = other.own;
            side = other.side;
            shields = other.shields;
            length = other.length;
            System.arraycopy(other.wireAt, 0, wireAt, 0, MOST_WIRES);
            System.arraycopy(other.row, 0, row, 0, ROW_ROOM);
        }

        int words() {
            return 1 << wires;
        }

        boolean isWord(int v) {
            return v >= 0 && v < words();
        }

        boolean isWire(int v) {
            return v >= 0 && v < wires;
        }

        boolean isGap(int g) {
            return g >= 0 && g < wires - 1;
        }

        int shieldAt(int g) {
            return isGap(g) ? (shields >> g) & 1 : 0;
        }

        void putShield(int g, boolean is) {
            shields = is ? shields | (1 << g) : shields & ~(1 << g);
        }

        int wireAt(int place) {
            return place >= 0 && place < wireAt.length ? wireAt[place] : 0;
        }

        int placeOf(int wire) {
            for (int place = 0; place < wires; place++) {
                if (wireAt(place) == wire) {
                    return place;
                }
            }
            return 0;
        }

        /** Whether the figures were an order; only then do the wires lie by it. */
        boolean reorder(int figures) {
            if (!isOrder(figures)) {
                return false;
            }
            int rest = figures;
            for (int place = wires - 1; place >= 0 && place < wireAt.length; place--) {
                wireAt[place] = rest % 10;
                rest /= 10;
            }
            return true;
        }

        private boolean isOrder(int figures) {
            int found = 0;
            int rest = figures;
            for (int i = 0; i < wires; i++) {
                int wire = rest % 10;
                rest /= 10;
                if (!isWire(wire)) {
                    return false;
                }
                found |= 1 << wire;
            }
            return rest == 0 && found == words() - 1;
        }

        /** Word i of the row; what lies on the wires ahead of it is the word 0. */
        int wordAt(int i) {
            return i >= 0 && i < row.length ? row[i] : 0;
        }

        boolean append(int word) {
            if (length < 0 || length >= row.length) {
                return false;
            }
            row[length] = word;
            length++;
            return true;
        }

        /** A word with the bit of the wire at each place, in place of that wire's number. */
        int byPlaces(int word) {
            int bits = 0;
            for (int place = 0; place < wires; place++) {
                bits |= ((word >> wireAt(place)) & 1) << place;
            }
            return bits;
        }

        /** Brings the whole row into places once, for those who go over it many times. */
        void layOut() {
            for (int i = 0; i < laid.length; i++) {
                laid[i] = i < length ? byPlaces(wordAt(i)) : 0;
            }
        }

        /** What lies on the wires ahead of change i, by places. */
        int laidBefore(int i) {
            return i >= 1 && i <= laid.length ? laid[i - 1] : 0;
        }
    }

    /** One change, a bit for each place or for each gap. */
    private static final class Change {
        private int places;
        private int rising;
        private int falling;
        private int moving;
        private int shielded;
        private int against1;
        private int against2;

        /** The words are by places; the same object serves every change, one after another. */
        void between(int from, int to, int wires, int shields) {
            int gaps = (1 << (wires - 1)) - 1;
            places = (1 << wires) - 1;
            rising = to & ~from;
            falling = from & ~to;
            moving = rising | falling;
            shielded = shields & gaps;
            int open = gaps & ~shielded;
            against1 = (moving ^ (moving >> 1)) & open;
            against2 = ((rising & (falling >> 1)) | (falling & (rising >> 1))) & open;
        }

        int moves() {
            return Integer.bitCount(moving);
        }

        int cost(int own, int side) {
            int besideShields = Integer.bitCount(moving & shielded)
                + Integer.bitCount((moving >> 1) & shielded);
            int squares = Integer.bitCount(against1) + 4 * Integer.bitCount(against2);
            return own * moves() + side * (squares + besideShields);
        }

        int slowAt(int place) {
            if (((moving >> place) & 1) == 0) {
                return 0;
            }
            return againstOver(place) + (place > 0 ? againstOver(place - 1) : 0);
        }

        /** What is against a moving wire over one of its gaps. */
        private int againstOver(int gap) {
            if (((against2 >> gap) & 1) != 0) {
                return 2;
            }
            return ((against1 | shielded) >> gap) & 1;
        }

        /** All places at once, as machines ask for tens of thousands of changes. */
        int greatestSlow() {
            int some = against1 | against2 | shielded;
            int someBehind = moving & some;
            int someAhead = moving & (some << 1);
            int muchBehind = moving & against2;
            int muchAhead = moving & (against2 << 1);
            if ((muchBehind & muchAhead) != 0) {
                return 4;
            }
            if (((muchBehind & someAhead) | (someBehind & muchAhead)) != 0) {
                return 3;
            }
            if ((muchBehind | muchAhead | (someBehind & someAhead)) != 0) {
                return 2;
            }
            return (someBehind | someAhead) != 0 ? 1 : 0;
        }

        int noise() {
            int still = places & ~moving;
            int upAhead = (rising & ~shielded) << 1;
            int upBehind = (rising >> 1) & ~shielded;
            int downAhead = (falling & ~shielded) << 1;
            int downBehind = (falling >> 1) & ~shielded;
            if ((still & ((upAhead & upBehind) | (downAhead & downBehind))) != 0) {
                return 2;
            }
            int oneSided = (upAhead | downAhead) ^ (upBehind | downBehind);
            return (still & oneSided) != 0 ? 1 : 0;
        }
    }

    /** The search for the order by which a row costs the least. */
    private static final class Orders {
        private static final int SETS = 1 << MOST_WIRES;
        /** More than 40 changes of 8 wires can cost at the highest prices: some 140,000. */
        private static final int DEARER_THAN_ALL = 1 << 20;
        /** What two wires cost as neighbours, over the whole row. */
        private final int[] asNeighbours = new int[MOST_WIRES * MOST_WIRES];
        /** What the wires of a set cost at the least, the one named being the first of them. */
        private final int[] least = new int[SETS * MOST_WIRES];
        private final Plan plan;
        private int wires;
        private int ownCost;

        Orders(Plan plan) {
            this.plan = plan;
        }

        void search() {
            wires = plan.wires;
            ownCost = 0;
            for (int i = 0; i < asNeighbours.length; i++) {
                asNeighbours[i] = 0;
            }
            for (int i = 0; i < plan.length; i++) {
                int from = plan.wordAt(i - 1);
                int to = plan.wordAt(i);
                ownCost += plan.own * Integer.bitCount(from ^ to);
                addPairs(to & ~from, from & ~to, plan.side);
            }
            for (int set = 1; set < 1 << wires; set++) {
                for (int first = 0; first < wires; first++) {
                    if (((set >> first) & 1) != 0) {
                        put(least, indexOf(set, first), costBehind(first, set & ~(1 << first)));
                    }
                }
            }
        }

        private void addPairs(int rising, int falling, int side) {
            for (int a = 0; a < wires; a++) {
                for (int b = 0; b < wires; b++) {
                    int against = moveOf(a, rising, falling) - moveOf(b, rising, falling);
                    int pair = indexOf(a, b);
                    put(asNeighbours, pair, get(asNeighbours, pair) + side * against * against);
                }
            }
        }

        private static int moveOf(int wire, int rising, int falling) {
            return ((rising >> wire) & 1) - ((falling >> wire) & 1);
        }

        /** What a wire and then the rest cost at the least; nothing if there is no rest. */
        private int costBehind(int wire, int rest) {
            int cheapest = DEARER_THAN_ALL;
            for (int next = 0; next < wires; next++) {
                if (((rest >> next) & 1) != 0) {
                    cheapest = Math.min(cheapest, costVia(wire, next, rest));
                }
            }
            return rest == 0 ? 0 : cheapest;
        }

        private int costVia(int wire, int next, int rest) {
            return get(asNeighbours, indexOf(wire, next)) + get(least, indexOf(rest, next));
        }

        int leastCost() {
            int all = (1 << wires) - 1;
            int cheapest = DEARER_THAN_ALL;
            for (int first = 0; first < wires; first++) {
                cheapest = Math.min(cheapest, get(least, indexOf(all, first)));
            }
            return ownCost + cheapest;
        }

        /** The least wire that still leads to the least cost, place by place. */
        int leastFigures() {
            int rest = (1 << wires) - 1;
            int due = leastCost() - ownCost;
            int figures = 0;
            int last = NONE;
            for (int place = 0; place < wires; place++) {
                int wire = cheapestOf(rest, last, due);
                rest &= ~(1 << wire);
                due = get(least, indexOf(rest | (1 << wire), wire));
                figures = figures * 10 + wire;
                last = wire;
            }
            return figures;
        }

        private int cheapestOf(int rest, int last, int due) {
            for (int wire = 0; wire < wires; wire++) {
                if (((rest >> wire) & 1) != 0) {
                    int cost = last < 0 ? get(least, indexOf(rest, wire)) : costVia(last, wire, rest);
                    if (cost == due) {
                        return wire;
                    }
                }
            }
            return 0;
        }

        private static int indexOf(int major, int wire) {
            return major * MOST_WIRES + wire;
        }

        private static int get(int[] numbers, int i) {
            return i >= 0 && i < numbers.length ? numbers[i] : 0;
        }

        private static void put(int[] numbers, int i, int v) {
            if (i >= 0 && i < numbers.length) {
                numbers[i] = v;
            }
        }
    }

    /** The row sent over one wire more, which tells whether a word is turned round. */
    private static final class Turns {
        private static final int NEVER = 0, BY_COUNT = 1;
        int cost;
        int count;
        int first;
        int slowest;
        private final Plan plan;
        private final Change change;

        Turns(Plan plan, Change change) {
            this.plan = plan;
            this.change = change;
        }

        void sendAll(int way) {
            plan.layOut();
            cost = 0;
            count = 0;
            first = NONE;
            slowest = 0;
            int before = 0;
            for (int i = 0; i < plan.length; i++) {
                int turn = isTurned(way, i, before) ? 1 : 0;
                cost += costOf(i, before, turn);
                slowest = Math.max(slowest, change.greatestSlow());
                if (turn == 1 && first == NONE) {
                    first = i;
                }
                count += turn;
                before = turn;
            }
        }

        /**
         * The least of each change is the least over the whole row, too: with both words
         * turned, or each the other way, every wire moves the other way and all costs the
         * same, so no choice weighs on a later one.
         */
        private boolean isTurned(int way, int i, int before) {
            switch (way) {
                case NEVER: return false;
                case BY_COUNT: return 2 * movesOtherwise(i, before) > plan.wires;
                default: return costOf(i, before, 1) < costOf(i, before, 0);
            }
        }

        /** How many of the wires, without the one more, would move if word i were not turned. */
        private int movesOtherwise(int i, int before) {
            int wires = (1 << plan.wires) - 1;
            return Integer.bitCount((lying(i, before) ^ lying(i + 1, 0)) & wires);
        }

        private int costOf(int i, int before, int turn) {
            change.between(lying(i, before), lying(i + 1, turn), plan.wires + 1, plan.shields);
            return change.cost(plan.own, plan.side);
        }

        /** What lies on all wires ahead of change i, if the word there was turned or not. */
        private int lying(int i, int turn) {
            int all = (1 << (plan.wires + 1)) - 1;
            return turn == 1 ? plan.laidBefore(i) ^ all : plan.laidBefore(i);
        }
    }

    /** The machines of every k over the same wires, by numbers and without shields. */
    private static final class Machine {
        static final int BOOK_WIRES = 4;
        private static final int BOOK_WORDS = 1 << BOOK_WIRES;
        private static final int WORDS = 1 << MOST_WIRES;
        /** A set of words is as many longs. */
        private static final int PARTS = 4, PART_BITS = 64;
        private final Change change;
        private final long[] near = new long[(MOST_SLOW + 1) * WORDS * PARTS];
        private final long[] kept = new long[PARTS];
        /** What is looked at: all words kept, or those of them one step from a word. */
        private final long[] seen = new long[PARTS];
        private int wires;
        private int words;

        Machine(Change change) {
            this.change = change;
        }

        /** Who is near whom hangs on nothing but how many wires there are. */
        void prepare(int howMany) {
            if (wires == howMany) {
                return;
            }
            wires = howMany;
            words = 1 << howMany;
            for (int i = 0; i < near.length; i++) {
                near[i] = 0;
            }
            for (int to = 0; to < words; to++) {
                for (int from = 0; from <= to; from++) {
                    change.between(from, to, wires, 0);
                    link(from, to, change.greatestSlow());
                }
            }
        }

        private void link(int from, int to, int slow) {
            for (int k = slow; k <= MOST_SLOW; k++) {
                addWay(k, from, to);
                addWay(k, to, from);
            }
        }

        private void addWay(int k, int from, int to) {
            int part = rowOf(k, from) + to / PART_BITS;
            if (part >= 0 && part < near.length) {
                near[part] |= 1L << (to % PART_BITS);
            }
        }

        private static int rowOf(int k, int word) {
            return (k * WORDS + word) * PARTS;
        }

        private long nearPart(int k, int word, int part) {
            int i = rowOf(k, word) + part;
            return i >= 0 && i < near.length ? near[i] : 0;
        }

        int waysFrom(int k, int word) {
            int ways = 0;
            for (int part = 0; part < PARTS; part++) {
                ways += Long.bitCount(nearPart(k, word, part));
            }
            return ways;
        }

        /** How many words are kept; they are looked at then. */
        int keep(int k, int b) {
            fillKept();
            int left = words;
            boolean lost = true;
            for (int round = 0; lost && round <= WORDS; round++) {
                int had = left;
                for (int word = 0; word < words; word++) {
                    if (isIn(kept, word) && keptWays(k, word) < 1 << b) {
                        drop(word);
                        left--;
                    }
                }
                lost = left < had;
            }
            System.arraycopy(kept, 0, seen, 0, PARTS);
            return left;
        }

        private void fillKept() {
            for (int part = 0; part < kept.length; part++) {
                int from = part * PART_BITS;
                boolean whole = words - from >= PART_BITS;
                kept[part] = whole ? -1L : words > from ? (1L << (words - from)) - 1 : 0;
            }
        }

        private int keptWays(int k, int word) {
            int ways = 0;
            for (int part = 0; part < kept.length; part++) {
                ways += Long.bitCount(kept[part] & nearPart(k, word, part));
            }
            return ways;
        }

        private void drop(int word) {
            int part = word / PART_BITS;
            if (part >= 0 && part < kept.length) {
                kept[part] &= ~(1L << (word % PART_BITS));
            }
        }

        private static boolean isIn(long[] set, int word) {
            int part = word / PART_BITS;
            return part >= 0 && part < set.length && ((set[part] >>> (word % PART_BITS)) & 1) != 0;
        }

        void lookFrom(int k, int word) {
            for (int part = 0; part < seen.length && part < kept.length; part++) {
                seen[part] = kept[part] & nearPart(k, word, part);
            }
        }

        boolean isSeen(int word) {
            return isIn(seen, word);
        }

        int seenBelow(int bound) {
            int lesser = 0;
            for (int word = 0; word < bound && word < words; word++) {
                if (isSeen(word)) {
                    lesser++;
                }
            }
            return lesser;
        }

        int seenNumbered(int number) {
            int lesser = 0;
            for (int word = 0; word < words; word++) {
                if (isSeen(word)) {
                    if (lesser == number) {
                        return word;
                    }
                    lesser++;
                }
            }
            return NONE;
        }

        /** For few wires: the words of the greatest book, as bits. */
        int greatestBook(int k) {
            return wires > BOOK_WIRES ? 0 : grow(near, rowOf(k, 0), 0, (1 << words) - 1, 0);
        }

        /**
         * Every book that holds the set and takes its other words of the open ones, least
         * words first: so the first of the greatest is the one that is due. The set has a
         * word more at each level, so its size is the depth.
         */
        private static int grow(long[] near, int row, int set, int open, int best) {
            int size = Integer.bitCount(set);
            int greatest = size > Integer.bitCount(best) ? set : best;
            int rest = open;
            for (int word = 0; size < BOOK_WORDS && word < BOOK_WORDS; word++) {
                if (size + Integer.bitCount(rest) <= Integer.bitCount(greatest)) {
                    return greatest;
                }
                int bit = 1 << word;
                int part = row + word * PARTS;
                if ((rest & bit) != 0 && part >= 0 && part < near.length) {
                    rest &= ~bit;
                    greatest = grow(near, row, set | bit, rest & (int) near[part], greatest);
                }
            }
            return greatest;
        }
    }

    /** The bytes of a text, and the token of them that was read last. */
    private static final class Tape {
        static final int END = 0, NAME = 1, NUMBER = 2, STOP = 3, WRONG = 4;
        static final int WIRES = 1, OWN = 2, SIDE = 3, SHIELD = 4, SEND = 5, STEP = 6;
        private static final int WORD_BYTES = 8, MOST_FIGURES = 3;
        int size;
        /** Of the token: what it is, its first byte, and which name or number it is. */
        int kind;
        int start;
        int value;
        private final byte[] bytes = new byte[TAPE_ROOM];
        private int ahead;

        boolean append(long v) {
            if (size < 0 || size > bytes.length - WORD_BYTES) {
                return false;
            }
            for (int i = 0; i < WORD_BYTES; i++) {
                bytes[size + i] = (byte) (v >>> (8 * (WORD_BYTES - 1 - i)));
            }
            size += WORD_BYTES;
            return true;
        }

        boolean cut(int n) {
            if (n < 0 || n > size) {
                return false;
            }
            size = n;
            return true;
        }

        void rewind() {
            ahead = 0;
        }

        void next() {
            start = endOfRun(ahead, ' ', ' ');
            value = 0;
            ahead = start + 1;
            int sign = byteAt(start);
            if (start >= size) {
                kind = END;
                ahead = size;
            } else if (isWithin(sign, 'a', 'z')) {
                ahead = endOfRun(start, 'a', 'z');
                value = nameNumber();
                kind = value == 0 ? WRONG : NAME;
            } else if (isWithin(sign, '0', '9')) {
                nextNumber();
            } else {
                kind = sign == ';' ? STOP : WRONG;
            }
        }

        private int nameNumber() {
            if (spells("wires")) {
                return WIRES;
            }
            if (spells("own")) {
                return OWN;
            }
            if (spells("side")) {
                return SIDE;
            }
            if (spells("shield")) {
                return SHIELD;
            }
            if (spells("send")) {
                return SEND;
            }
            return spells("step") ? STEP : 0;
        }

        private boolean spells(String name) {
            if (ahead - start != name.length()) {
                return false;
            }
            for (int i = 0; i < name.length(); i++) {
                if (byteAt(start + i) != name.charAt(i)) {
                    return false;
                }
            }
            return true;
        }

        private void nextNumber() {
            ahead = endOfRun(start, '0', '9');
            boolean isTooLong = ahead - start > MOST_FIGURES;
            kind = isTooLong ? WRONG : NUMBER;
            for (int i = start; i < ahead && !isTooLong; i++) {
                value = value * 10 + byteAt(i) - '0';
            }
        }

        private int endOfRun(int from, int lowest, int highest) {
            int i = from;
            while (i < size && isWithin(byteAt(i), lowest, highest)) {
                i++;
            }
            return i;
        }

        private static boolean isWithin(int sign, int lowest, int highest) {
            return sign >= lowest && sign <= highest;
        }

        private int byteAt(int i) {
            return i >= 0 && i < size && i < bytes.length ? bytes[i] : 0;
        }
    }

    /** Reads a text into a plan of its own, so that a fault spoils nothing that was told. */
    private static final class Reader {
        private static final int NO_TOKEN = 1, MISPLACED = 2, OUT_OF_BOUNDS = 3, AGAIN = 4, TOO_MANY = 5;
        final Tape tape = new Tape();
        final Plan told = new Plan();
        int fault;
        /** A bit for each name that a line began with. */
        private int namesTold;
        private int stepFrom;
        private int stepBy;

        int readText() {
            told.reset();
            tape.rewind();
            fault = 0;
            namesTold = 0;
            for (int lines = 0; lines <= TAPE_ROOM; lines++) {
                tape.next();
                if (tape.kind == Tape.END) {
                    return lines;
                }
                fault = readLine();
                if (fault != 0) {
                    break;
                }
            }
            return FAULT_BASE - tape.start;
        }

        /** The line whose first token was read; its fault is at the token read last. */
        private int readLine() {
            if (tape.kind != Tape.NAME) {
                return outOfPlace();
            }
            int name = tape.value;
            if (isToldAgain(name)) {
                return AGAIN;
            }
            namesTold |= 1 << name;
            for (int i = 0; i <= TAPE_ROOM; i++) {
                tape.next();
                if (tape.kind == Tape.STOP && i >= fewestNumbers(name)) {
                    return 0;
                }
                boolean fits = tape.kind == Tape.NUMBER && i < mostNumbers(name);
                int found = fits ? take(name, i, tape.value) : outOfPlace();
                if (found != 0) {
                    return found;
                }
            }
            return MISPLACED;
        }

        private int outOfPlace() {
            return tape.kind == Tape.WRONG ? NO_TOKEN : MISPLACED;
        }

        private boolean isToldAgain(int name) {
            int behind = (1 << Tape.SHIELD) | (1 << Tape.SEND) | (1 << Tape.STEP);
            switch (name) {
                case Tape.WIRES: return (namesTold & ((1 << name) | behind)) != 0;
                case Tape.OWN:
                case Tape.SIDE: return (namesTold & (1 << name)) != 0;
                default: return false;
            }
        }

        private static int fewestNumbers(int name) {
            return name == Tape.STEP ? 3 : 1;
        }

        private static int mostNumbers(int name) {
            return name == Tape.SEND ? TAPE_ROOM : fewestNumbers(name);
        }

        private int take(int name, int i, int v) {
            switch (name) {
                case Tape.WIRES: return takeWires(v);
                case Tape.OWN:
                    told.own = v;
                    return v > MOST_PRICE ? OUT_OF_BOUNDS : 0;
                case Tape.SIDE:
                    told.side = v;
                    return v > MOST_PRICE ? OUT_OF_BOUNDS : 0;
                case Tape.SHIELD: return takeShield(v);
                case Tape.SEND: return takeWord(v);
                default: return takeStep(i, v);
            }
        }

        private int takeWires(int v) {
            if (v < FEWEST_WIRES || v > MOST_WIRES) {
                return OUT_OF_BOUNDS;
            }
            told.wires = v;
            return 0;
        }

        private int takeShield(int g) {
            if (!told.isGap(g)) {
                return OUT_OF_BOUNDS;
            }
            if (told.shieldAt(g) == 1) {
                return AGAIN;
            }
            told.putShield(g, true);
            return 0;
        }

        private int takeWord(int v) {
            if (!told.isWord(v)) {
                return OUT_OF_BOUNDS;
            }
            return told.append(v) ? 0 : TOO_MANY;
        }

        private int takeStep(int i, int v) {
            if (i == 0) {
                stepFrom = v;
                return told.isWord(v) ? 0 : OUT_OF_BOUNDS;
            }
            if (i == 1) {
                stepBy = v;
                return v > MOST_STEP ? OUT_OF_BOUNDS : 0;
            }
            return takeSteps(v);
        }

        private int takeSteps(int count) {
            if (count < 1 || count > ROW_ROOM) {
                return OUT_OF_BOUNDS;
            }
            if (told.length + count > ROW_ROOM) {
                return TOO_MANY;
            }
            for (int i = 0; i < count; i++) {
                told.append((stepFrom + i * stepBy) & (told.words() - 1));
            }
            return 0;
        }
    }

    /** A row of cells, or nothing; what the machine would refuse is found before it is tried. */
    private static final class Sheet {
        static final int BYTES = 0, SHORTS = 1, INTS = 2;
        private static final int NOTHING = -1;
        int lane = NOTHING;
        int size;
        private final int[] cells = new int[CELL_ROOM];

        boolean isNothing() {
            return lane == NOTHING;
        }

        void renew(int newLane, int n) {
            lane = newLane;
            size = n;
            for (int i = 0; i < cells.length; i++) {
                cells[i] = 0;
            }
        }

        /** The fault of taking it as of a lane and touching cell i; 0 if there is none. */
        int faultAs(int asLane, int i) {
            if (isNothing()) {
                return NULL;
            }
            if (asLane != lane) {
                return CAST;
            }
            return i < 0 || i >= size ? INDEX : 0;
        }

        int cell(int i) {
            return i >= 0 && i < cells.length ? cells[i] : 0;
        }

        void put(int i, int v) {
            if (i >= 0 && i < cells.length) {
                cells[i] = lane == BYTES ? (byte) v : lane == SHORTS ? (short) v : v;
            }
        }
    }
}
