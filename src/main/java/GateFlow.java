import java.util.Arrays;

/** A planner of flood gates; the document's promises say what each call answers. */
public final class GateFlow {
    public static final int NONE = -1, BAD = -2, STATE = -3, FULL = -4;

    private static final int NOTHING = -11, BEYOND = -13, BELOW = -14;
    private static final int NO_SUCH = -5, NO_PLACE = -2000000000, FAULT_BASE = -100;
    private static final int NODES = 12, GATES = 30, TOP_CAPACITY = 999, TOP_DELAY = 3;
    private static final int TOP_HOURS = 8, TOP_REACH = 20;
    private static final int TAPE_BYTES = 90, NEST = 5;
    private static final int LISTS = 4, LIST_PLACES = 40;
    /** A gate's longest spelling is "11>10:999-999@3x;": 17 bytes. */
    private static final int PAPER_BYTES = GATES * 17;
    /** A step backward by a gate is told as this and the gate. */
    private static final int BACKWARD = 100;
    /** Shortest ways: each of 60 steps is the narrowest of a way at most 6 times. */
    private static final int TOP_WAYS = 360;
    /** The widest net is that of the hours: nodes at the hours' ends, gates at their beginnings. */
    private static final int NET_NODES = NODES * (TOP_HOURS + 1);
    private static final int NET_SIDES = 2 * TOP_HOURS * (GATES + NODES);
    /** More than all gates let through in all hours together. */
    private static final int ENOUGH = 1000000000;
    /** Far above what any run needs: it only shows that a loop ends. */
    private static final int TURNS = 1000000;

    private final Gates now;
    private final Gates image;
    private boolean imaged;
    private final ByWays byWays;
    private boolean waysFresh;
    private final ByHeights byHeights;
    private boolean heightsFresh;
    private final Strands strands;
    private boolean strandsFresh;
    private final Worst worst;
    private boolean worstFresh;
    private final Models models;
    private final Tape tape;
    private final Condition condition;
    private final Paper paper;
    private final Lists lists;

    public GateFlow() {
        now = new Gates();
        image = new Gates();
        byWays = new ByWays();
        byHeights = new ByHeights();
        strands = new Strands();
        models = new Models();
        worst = new Worst();
        tape = new Tape();
        condition = new Condition();
        paper = new Paper();
        lists = new Lists();
    }

    // ---- gates ----

    public int gate(int from, int to, int least, int capacity, int delay) {
        if (!isNode(from) || !isNode(to) || from == to) {
            return NONE;
        }
        if (!isCapacity(capacity) || least < 0 || least > capacity || !isDelay(delay)) {
            return BAD;
        }
        if (now.count >= GATES) {
            return FULL;
        }
        forget();
        return now.add(from, to, least, capacity, delay, 1);
    }

    public int of(int gate, int what) {
        if (!now.has(gate)) {
            return NONE;
        }
        switch (what) {
            case 0: return now.from[gate];
            case 1: return now.to[gate];
            case 2: return now.least[gate];
            case 3: return now.capacity[gate];
            case 4: return now.delay[gate];
            case 5: return now.open[gate];
            default: return NONE;
        }
    }

    public int widen(int gate, int capacity) {
        if (!now.has(gate)) {
            return NONE;
        }
        if (!isCapacity(capacity) || capacity < now.least[gate]) {
            return BAD;
        }
        int was = now.capacity[gate];
        now.capacity[gate] = capacity;
        forget();
        return was;
    }

    public int bind(int gate, int least) {
        if (!now.has(gate)) {
            return NONE;
        }
        if (least < 0 || least > now.capacity[gate]) {
            return BAD;
        }
        int was = now.least[gate];
        now.least[gate] = least;
        forget();
        return was;
    }

    public int turn(int gate, int open) {
        if (!now.has(gate) || !isOneOrZero(open)) {
            return NONE;
        }
        int was = now.open[gate];
        now.open[gate] = open;
        forget();
        return was;
    }

    public int drop() {
        if (now.count <= 0) {
            return STATE;
        }
        now.count--;
        forget();
        return now.count;
    }

    public int ends(int source, int sink) {
        if (!isNode(source) || !isNode(sink) || source == sink) {
            return NONE;
        }
        now.source = source;
        now.sink = sink;
        forget();
        return 1;
    }

    // ---- the most, by ways and by heights ----

    public int most() {
        return freshWays().value;
    }

    public int water(int gate) {
        return now.has(gate) ? freshWays().number[gate] : NONE;
    }

    public int ways(int i, int what) {
        ByWays w = freshWays();
        if (i == -1) {
            return w.count;
        }
        if (i < 0 || i >= w.count) {
            return NONE;
        }
        if (what == 0) {
            return w.amounts[i];
        }
        if (what == 1) {
            return w.lengths[i];
        }
        return what >= 10 && what - 10 < w.lengths[i] ? w.steps[i * NODES + what - 10] : NONE;
    }

    public int byHeights(int gate) {
        return now.has(gate) ? freshHeights().number[gate] : NONE;
    }

    public int heights(int node, int what) {
        if (node == -1) {
            return what == 0 ? freshHeights().pushes : NONE;
        }
        if (!isNode(node)) {
            return NONE;
        }
        switch (what) {
            case 0: return freshHeights().height[node];
            case 1: return freshHeights().lifted[node];
            case 2: return freshHeights().served[node];
            default: return NONE;
        }
    }

    // ---- cuts, and what gates are worth ----

    public int near() {
        return freshWays().nearBits;
    }

    public int far() {
        return freshWays().farBits;
    }

    public int cut(int which) {
        if (!isOneOrZero(which)) {
            return NONE;
        }
        ByWays w = freshWays();
        int bits = 0;
        for (int g = 0; g < now.count; g++) {
            boolean in = which == 0
                ? hasBit(w.nearBits, now.from[g]) && !hasBit(w.nearBits, now.to[g])
                : !hasBit(w.farBits, now.from[g]) && hasBit(w.farBits, now.to[g]);
            if (in && now.open[g] == 1) {
                bits |= 1 << g;
            }
        }
        return bits;
    }

    public int wide() {
        ByWays w = freshWays();
        int bits = 0;
        for (int g = 0; g < now.count; g++) {
            // One more of room would end in a way: it is reached, and the sink is reached from it.
            if (now.open[g] == 1 && hasBit(w.nearBits, now.from[g]) && hasBit(w.farBits, now.to[g])) {
                bits |= 1 << g;
            }
        }
        return bits;
    }

    public int narrow() {
        ByWays w = freshWays();
        int bits = 0;
        for (int g = 0; g < now.count; g++) {
            // It is missed if it is full, and no other steps lead around it.
            boolean full = w.number[g] > 0 && w.number[g] == now.usable(g);
            if (full && !hasBit(w.spreadAlong(now, now.from[g]), now.to[g])) {
                bits |= 1 << g;
            }
        }
        return bits;
    }

    public int more(int gate, int n) {
        if (!now.has(gate)) {
            return NONE;
        }
        if (n < 0 || n > TOP_CAPACITY) {
            return BAD;
        }
        if (now.open[gate] == 0) {
            return STATE;
        }
        return models.mostIf(now, 0, gate, n) - freshWays().value;
    }

    public int loss(int set) {
        if (set < 0 || (set & ~now.allBits()) != 0) {
            return BAD;
        }
        return freshWays().value - models.mostIf(now, set, -1, 0);
    }

    public int worst(int what) {
        if (what < 0 || what > 3) {
            return NONE;
        }
        if (now.count < (what < 2 ? 1 : 2)) {
            return NO_SUCH;
        }
        Worst w = freshWorst();
        switch (what) {
            case 0: return w.gate;
            case 1: return w.gateLoss;
            case 2: return w.pair;
            default: return w.pairLoss;
        }
    }

    public int lines(int i, int what) {
        Strands s = freshStrands();
        if (i == -1) {
            return s.count;
        }
        if (i < 0 || i >= s.count) {
            return NONE;
        }
        switch (what) {
            case 0: return s.amounts[i];
            case 1: return s.lengths[i];
            case 2: return s.ring[i];
            default: break;
        }
        return what >= 10 && what - 10 < s.lengths[i] ? s.gates[i * NODES + what - 10] : NONE;
    }

    public int bound(int what) {
        return isOneOrZero(what) ? models.boundValue(now, what == 0) : NONE;
    }

    public int apart(int kind) {
        return isOneOrZero(kind) ? models.waysApart(now, kind == 1) : NONE;
    }

    public int hours(int n) {
        return n >= 1 && n <= TOP_HOURS ? models.inHours(now, n) : BAD;
    }

    public int two(int i, int what) {
        int seen = 0;
        for (int g = 0; g < now.count; g++) {
            if (now.isFirstOfTwo(g)) {
                if (seen == i) {
                    return ofTwo(g, what);
                }
                seen++;
            }
        }
        return i == -1 ? seen : NONE;
    }

    private int ofTwo(int first, int what) {
        switch (what) {
            case 0: return now.from[first];
            case 1: return now.to[first];
            case 2: return now.countOfTwo(first);
            case 3: return now.capacityOfTwo(first);
            default: return NONE;
        }
    }

    public int reach(int node, int hours) {
        if (!isNode(node)) {
            return NONE;
        }
        return hours >= 0 && hours <= TOP_REACH ? models.reachedIn(now, node, hours) : BAD;
    }

    // ---- texts ----

    public int feed(int letter) {
        if (letter < 1 || letter > 127) {
            return BAD;
        }
        return tape.add(letter) ? tape.length : FULL;
    }

    public int clear() {
        int had = tape.length;
        tape.length = 0;
        return had;
    }

    public int read() {
        int before = now.count;
        tape.begin();
        readBook(tape, now);
        tape.length = 0;
        if (tape.fault >= 0) {
            now.count = before;
            return FAULT_BASE - tape.fault;
        }
        forget();
        return now.count - before;
    }

    public int pick() {
        int bits = takeCondition();
        return tape.fault >= 0 ? FAULT_BASE - tape.fault : bits;
    }

    public int many() {
        int bits = takeCondition();
        return tape.fault >= 0 ? FAULT_BASE - tape.fault : Integer.bitCount(bits);
    }

    public int shutAll(int open) {
        if (!isOneOrZero(open)) {
            return NONE;
        }
        int bits = takeCondition();
        if (tape.fault >= 0) {
            return FAULT_BASE - tape.fault;
        }
        int turned = 0;
        for (int g = 0; g < now.count; g++) {
            if (hasBit(bits, g) && now.open[g] != open) {
                now.open[g] = open;
                turned++;
            }
        }
        forget();
        return turned;
    }

    public int spell() {
        paper.write(now);
        return paper.size;
    }

    public int paper(int i) {
        return i >= 0 && i < paper.size ? paper.bytes[i] : NONE;
    }

    public int told(int what) {
        switch (what) {
            case 0: return now.count;
            case 1: return now.countOpen();
            case 2: return now.source;
            case 3: return now.sink;
            case 4: return now.capacityFrom(now.source);
            case 5: return now.capacityTo(now.sink);
            case 6: return tape.length;
            case 7: return paper.size;
            case 8: return freshWays().count;
            case 9: return freshStrands().count - freshStrands().rings;
            case 10: return freshStrands().rings;
            default: return NONE;
        }
    }

    // ---- lists ----

    public int list(int list, int n) {
        if (!isList(list)) {
            return NONE;
        }
        if (n > LIST_PLACES) {
            return BAD;
        }
        if (n < 0) {
            return BELOW;
        }
        lists.become(list, n);
        return 1;
    }

    public int set(int list, int i, int v) {
        if (!isList(list)) {
            return NONE;
        }
        if (!lists.holds(list)) {
            return NOTHING;
        }
        if (!lists.hasPlace(list, i)) {
            return BEYOND;
        }
        lists.put(list, i, v);
        return 1;
    }

    public int get(int list, int i) {
        return isList(list) && lists.hasPlace(list, i) ? lists.value(list, i) : NO_PLACE;
    }

    public int lay(int list, int i, int way) {
        if (!isList(list) || !isOneOrZero(way)) {
            return NONE;
        }
        if (!lists.holds(list)) {
            return NOTHING;
        }
        int[] number = way == 0 ? freshWays().number : freshHeights().number;
        for (int g = 0; g < now.count; g++) {
            // No place is at i itself if it is so great that the sum could wrap around.
            if (!lists.hasPlace(list, i + g)) {
                return BEYOND;
            }
            lists.put(list, i + g, number[g]);
        }
        return now.count;
    }

    public int judge(int list, int i) {
        if (!isList(list)) {
            return NONE;
        }
        if (!lists.holds(list)) {
            return NOTHING;
        }
        return i < 0 ? BEYOND : lists.judged(list, i, now);
    }

    // ---- the image ----

    public int image() {
        image.copyFrom(now);
        imaged = true;
        return now.count;
    }

    public int undo() {
        if (!imaged) {
            return STATE;
        }
        now.copyFrom(image);
        forget();
        return now.count;
    }

    // ---- what is worked out once, and kept until a gate or an end changes ----

    private void forget() {
        waysFresh = false;
        heightsFresh = false;
        strandsFresh = false;
        worstFresh = false;
    }

    private ByWays freshWays() {
        if (!waysFresh) {
            byWays.run(now);
            waysFresh = true;
        }
        return byWays;
    }

    private ByHeights freshHeights() {
        if (!heightsFresh) {
            byHeights.run(now);
            heightsFresh = true;
        }
        return byHeights;
    }

    private Strands freshStrands() {
        if (!strandsFresh) {
            strands.run(now, freshWays().number);
            strandsFresh = true;
        }
        return strands;
    }

    private Worst freshWorst() {
        if (!worstFresh) {
            worst.run(now, freshWays(), models);
            worstFresh = true;
        }
        return worst;
    }

    private int takeCondition() {
        tape.begin();
        int bits = condition.holding(tape, now, freshWays().number);
        tape.length = 0;
        return bits;
    }

    // ---- small questions ----

    private static boolean isNode(int node) {
        return node >= 0 && node < NODES;
    }

    private static boolean isCapacity(int capacity) {
        return capacity >= 0 && capacity <= TOP_CAPACITY;
    }

    private static boolean isDelay(int delay) {
        return delay >= 1 && delay <= TOP_DELAY;
    }

    private static boolean isOneOrZero(int value) {
        return value == 0 || value == 1;
    }

    private static boolean isList(int list) {
        return list >= 0 && list < LISTS;
    }

    private static boolean hasBit(int bits, int i) {
        return (bits >> i & 1) == 1;
    }

    // ---- books ----

    /** Adds the gates of the book as they are read; whoever calls takes them back at a fault. */
    private static void readBook(Tape t, Gates g) {
        for (int n = 0; n <= TAPE_BYTES; n++) {
            readGate(t, g);
            if (t.fault >= 0 || !t.takes(';')) {
                break;
            }
        }
        if (t.place < t.length) {
            t.fail(t.place);
        }
    }

    private static void readGate(Tape t, Gates g) {
        if (g.count >= GATES) {
            t.fail(t.place);
            return;
        }
        int from = readNode(t, -1);
        t.expect('>');
        int to = readNode(t, from);
        t.expect(':');
        int least = 0;
        int capacity = t.number();
        if (t.takes('-')) {
            least = capacity;
            int begin = t.place;
            capacity = t.number();
            if (capacity < least) {
                t.fail(begin);
            }
        }
        int delay = t.takes('@') ? readDelay(t) : 1;
        int open = t.takes('x') ? 0 : 1;
        if (t.fault < 0) {
            g.add(from, to, least, capacity, delay, open);
        }
    }

    private static int readNode(Tape t, int other) {
        int begin = t.place;
        int node = t.number();
        if (!isNode(node) || node == other) {
            t.fail(begin);
        }
        return node;
    }

    private static int readDelay(Tape t) {
        int begin = t.place;
        int delay = t.number();
        if (!isDelay(delay)) {
            t.fail(begin);
        }
        return delay;
    }

    /** The gates and the two ends: all that an image keeps. */
    private static final class Gates {
        final int[] from = new int[GATES];
        final int[] to = new int[GATES];
        final int[] least = new int[GATES];
        final int[] capacity = new int[GATES];
        final int[] delay = new int[GATES];
        final int[] open = new int[GATES];
        int count;
        int source;
        int sink = NODES - 1;

        boolean has(int g) {
            return g >= 0 && g < count;
        }

        int add(int a, int b, int low, int high, int wait, int opened) {
            if (count < 0 || count >= GATES) {
                return FULL;
            }
            from[count] = a;
            to[count] = b;
            least[count] = low;
            capacity[count] = high;
            delay[count] = wait;
            open[count] = opened;
            count++;
            return count - 1;
        }

        void copyFrom(Gates other) {
            System.arraycopy(other.from, 0, from, 0, GATES);
            System.arraycopy(other.to, 0, to, 0, GATES);
            System.arraycopy(other.least, 0, least, 0, GATES);
            System.arraycopy(other.capacity, 0, capacity, 0, GATES);
            System.arraycopy(other.delay, 0, delay, 0, GATES);
            System.arraycopy(other.open, 0, open, 0, GATES);
            count = other.count;
            source = other.source;
            sink = other.sink;
        }

        /** The capacity as flows see it: none of a gate that is shut. */
        int usable(int g) {
            return has(g) && open[g] == 1 ? capacity[g] : 0;
        }

        int usableLeast(int g) {
            return has(g) && open[g] == 1 ? least[g] : 0;
        }

        void copyUsable(int[] row) {
            for (int g = 0; g < count && g < row.length; g++) {
                row[g] = usable(g);
            }
        }

        int allBits() {
            return (1 << count) - 1;
        }

        int countOpen() {
            int n = 0;
            for (int g = 0; g < count; g++) {
                n += open[g];
            }
            return n;
        }

        int capacityFrom(int node) {
            int sum = 0;
            for (int g = 0; g < count; g++) {
                sum += from[g] == node ? usable(g) : 0;
            }
            return sum;
        }

        int capacityTo(int node) {
            int sum = 0;
            for (int g = 0; g < count; g++) {
                sum += to[g] == node ? usable(g) : 0;
            }
            return sum;
        }

        private boolean isSameTwo(int g, int h) {
            return from[g] == from[h] && to[g] == to[h];
        }

        boolean isFirstOfTwo(int g) {
            for (int h = 0; h < g; h++) {
                if (isSameTwo(g, h)) {
                    return false;
                }
            }
            return true;
        }

        int countOfTwo(int first) {
            int n = 0;
            for (int g = 0; g < count; g++) {
                n += isSameTwo(g, first) ? 1 : 0;
            }
            return n;
        }

        int capacityOfTwo(int first) {
            int sum = 0;
            for (int g = 0; g < count; g++) {
                sum += isSameTwo(g, first) ? usable(g) : 0;
            }
            return sum;
        }
    }

    /** The flow by ways, the ways themselves, and what can be reached when there is none left. */
    private static final class ByWays {
        final int[] number = new int[GATES];
        final int[] amounts = new int[TOP_WAYS];
        final int[] lengths = new int[TOP_WAYS];
        final int[] steps = new int[TOP_WAYS * NODES];
        private final int[] limit = new int[GATES];
        private final int[] distance = new int[NODES];
        private final int[] queue = new int[NODES];
        int count;
        int value;
        int nearBits;
        int farBits;

        void run(Gates g) {
            g.copyUsable(limit);
            Arrays.fill(number, 0);
            value = 0;
            measure(g);
            for (count = 0; count < TOP_WAYS && distance[g.source] > 0; count++) {
                takeWay(g);
                measure(g);
            }
            nearBits = spreadAlong(g, g.source);
            farBits = 0;
            for (int v = 0; v < NODES; v++) {
                farBits |= distance[v] >= 0 ? 1 << v : 0;
            }
        }

        private boolean forward(int e) {
            return number[e] < limit[e];
        }

        private boolean backward(int e) {
            return number[e] > 0;
        }

        /** How many steps each node is from the sink (-1: it can't be reached). */
        private void measure(Gates g) {
            Arrays.fill(distance, -1);
            distance[g.sink] = 0;
            queue[0] = g.sink;
            int known = 1;
            for (int i = 0; i < known && i < NODES; i++) {
                int node = queue[i];
                for (int e = 0; e < g.count; e++) {
                    int other = -1;
                    if (g.to[e] == node && forward(e)) {
                        other = g.from[e];
                    } else if (g.from[e] == node && backward(e)) {
                        other = g.to[e];
                    }
                    if (other >= 0 && distance[other] < 0 && known < NODES) {
                        distance[other] = distance[node] + 1;
                        queue[known] = other;
                        known++;
                    }
                }
            }
        }

        /** The first step each time that comes nearer to the sink: the earliest of the shortest ways. */
        private void takeWay(Gates g) {
            int base = count * NODES;
            int length = Math.min(distance[g.source], NODES);
            int node = g.source;
            int amount = ENOUGH;
            for (int k = 0; k < length; k++) {
                int step = nextStep(g, node);
                if (step < 0) {
                    break;
                }
                steps[base + k] = step;
                amount = Math.min(amount, roomOf(step));
                node = step < BACKWARD ? g.to[step] : g.from[step - BACKWARD];
            }
            amounts[count] = amount;
            lengths[count] = length;
            value += amount;
            pour(base, length, amount);
        }

        private int nextStep(Gates g, int node) {
            for (int e = 0; e < g.count; e++) {
                if (g.from[e] == node && forward(e) && distance[g.to[e]] == distance[node] - 1) {
                    return e;
                }
            }
            for (int e = 0; e < g.count; e++) {
                if (g.to[e] == node && backward(e) && distance[g.from[e]] == distance[node] - 1) {
                    return BACKWARD + e;
                }
            }
            return -1;
        }

        private int roomOf(int step) {
            return step < BACKWARD ? limit[step] - number[step] : number[step - BACKWARD];
        }

        private void pour(int base, int length, int amount) {
            for (int k = 0; k < length; k++) {
                int step = steps[base + k];
                if (step < BACKWARD) {
                    number[step] += amount;
                } else {
                    number[step - BACKWARD] -= amount;
                }
            }
        }

        /** The nodes to which one comes from a node by steps with room. */
        int spreadAlong(Gates g, int node) {
            int bits = 1 << node;
            for (int round = 0; round < NODES; round++) {
                int before = bits;
                for (int e = 0; e < g.count; e++) {
                    if (hasBit(bits, g.from[e]) && forward(e)) {
                        bits |= 1 << g.to[e];
                    }
                    if (hasBit(bits, g.to[e]) && backward(e)) {
                        bits |= 1 << g.from[e];
                    }
                }
                if (bits == before) {
                    break;
                }
            }
            return bits;
        }
    }

    /** The flow by heights, and how it came about. */
    private static final class ByHeights {
        final int[] number = new int[GATES];
        final int[] height = new int[NODES];
        final int[] lifted = new int[NODES];
        final int[] served = new int[NODES];
        private final int[] limit = new int[GATES];
        private final int[] excess = new int[NODES];
        private final int[] queue = new int[NODES];
        private final int[] queued = new int[NODES];
        private int first;
        private int waiting;
        int pushes;

        void run(Gates g) {
            begin(g);
            for (int turn = 0; turn < TURNS && waiting > 0; turn++) {
                int node = queue[first];
                serve(g, node);
                first = (first + 1) % NODES;
                waiting--;
                queued[node] = 0;
            }
        }

        private void begin(Gates g) {
            g.copyUsable(limit);
            Arrays.fill(number, 0);
            Arrays.fill(height, 0);
            Arrays.fill(lifted, 0);
            Arrays.fill(served, 0);
            Arrays.fill(excess, 0);
            Arrays.fill(queued, 0);
            first = 0;
            waiting = 0;
            pushes = 0;
            height[g.source] = NODES;
            for (int e = 0; e < g.count; e++) {
                if (g.from[e] == g.source && limit[e] > 0) {
                    push(g, e, limit[e]);
                }
            }
        }

        private void serve(Gates g, int node) {
            served[node]++;
            for (int turn = 0; turn < TURNS && excess[node] > 0; turn++) {
                int step = downStep(g, node);
                if (step >= 0) {
                    push(g, step, Math.min(excess[node], roomOf(step)));
                } else if (!lift(g, node)) {
                    break;
                }
            }
        }

        /** The first step with room to a node that is just one lower; -1: there is none. */
        private int downStep(Gates g, int node) {
            for (int e = 0; e < g.count; e++) {
                if (g.from[e] == node && number[e] < limit[e] && height[g.to[e]] == height[node] - 1) {
                    return e;
                }
            }
            for (int e = 0; e < g.count; e++) {
                if (g.to[e] == node && number[e] > 0 && height[g.from[e]] == height[node] - 1) {
                    return BACKWARD + e;
                }
            }
            return -1;
        }

        private boolean lift(Gates g, int node) {
            int lowest = ENOUGH;
            for (int e = 0; e < g.count; e++) {
                if (g.from[e] == node && number[e] < limit[e]) {
                    lowest = Math.min(lowest, height[g.to[e]]);
                }
                if (g.to[e] == node && number[e] > 0) {
                    lowest = Math.min(lowest, height[g.from[e]]);
                }
            }
            if (lowest == ENOUGH) {
                return false;
            }
            height[node] = lowest + 1;
            lifted[node]++;
            return true;
        }

        private int roomOf(int step) {
            return step < BACKWARD ? limit[step] - number[step] : number[step - BACKWARD];
        }

        private void push(Gates g, int step, int amount) {
            boolean forward = step < BACKWARD;
            int e = forward ? step : step - BACKWARD;
            int from = forward ? g.from[e] : g.to[e];
            int to = forward ? g.to[e] : g.from[e];
            number[e] += forward ? amount : -amount;
            excess[from] -= amount;
            excess[to] += amount;
            pushes++;
            if (to != g.source && to != g.sink && queued[to] == 0 && waiting < NODES) {
                queue[(first + waiting) % NODES] = to;
                waiting++;
                queued[to] = 1;
            }
        }
    }

    /** The lines and rings of the flow by ways. */
    private static final class Strands {
        final int[] amounts = new int[GATES];
        final int[] lengths = new int[GATES];
        final int[] ring = new int[GATES];
        final int[] gates = new int[GATES * NODES];
        private final int[] left = new int[GATES];
        private final int[] path = new int[NODES];
        private final int[] reachedAt = new int[NODES];
        int count;
        int rings;

        void run(Gates g, int[] number) {
            count = 0;
            rings = 0;
            for (int e = 0; e < GATES; e++) {
                left[e] = e < g.count && e < number.length ? number[e] : 0;
            }
            // Each that is taken leaves a gate without water, so there are no more than gates.
            while (count < GATES && walk(g)) {
                count++;
            }
        }

        /** Takes one line or ring; false if no gate from the source has water left. */
        private boolean walk(Gates g) {
            Arrays.fill(reachedAt, -1);
            int node = g.source;
            for (int length = 0; length < NODES; length++) {
                int e = firstLeft(g, node);
                if (e < 0) {
                    break;
                }
                reachedAt[node] = length;
                path[length] = e;
                node = g.to[e];
                if (node == g.sink) {
                    takeStrand(0, length + 1, 0);
                    return true;
                }
                if (reachedAt[node] >= 0) {
                    takeStrand(reachedAt[node], length + 1, 1);
                    return true;
                }
            }
            return false;
        }

        private int firstLeft(Gates g, int node) {
            for (int e = 0; e < g.count; e++) {
                if (g.from[e] == node && left[e] > 0) {
                    return e;
                }
            }
            return -1;
        }

        private void takeStrand(int begin, int end, int isRing) {
            int amount = ENOUGH;
            for (int k = begin; k < end; k++) {
                amount = Math.min(amount, left[path[k]]);
            }
            for (int k = begin; k < end; k++) {
                left[path[k]] -= amount;
                gates[count * NODES + k - begin] = path[k];
            }
            amounts[count] = amount;
            lengths[count] = end - begin;
            ring[count] = isRing;
            rings += isRing;
        }
    }

    /** The gate, and the two gates, whose loss is the greatest. */
    private static final class Worst {
        int gate;
        int gateLoss;
        int pair;
        int pairLoss;

        /** No more is lost than flows in the gates that are shut, so most sets need no look. */
        void run(Gates g, ByWays flow, Models models) {
            gate = -1;
            gateLoss = -1;
            pair = -1;
            pairLoss = -1;
            for (int a = 0; a < g.count; a++) {
                int can = Math.min(flow.number[a], flow.value);
                int lost = can > gateLoss ? flow.value - models.mostIf(g, 1 << a, -1, 0) : -1;
                if (lost > gateLoss) {
                    gateLoss = lost;
                    gate = a;
                }
            }
            for (int a = 0; a < g.count; a++) {
                for (int b = a + 1; b < g.count; b++) {
                    int can = Math.min(flow.number[a] + flow.number[b], flow.value);
                    int lost = can > pairLoss ? flow.value - models.mostIf(g, 1 << a | 1 << b, -1, 0) : -1;
                    if (lost > pairLoss) {
                        pairLoss = lost;
                        pair = 100 * a + b;
                    }
                }
            }
        }
    }

    /** A net of nodes and arcs: the most that passes, layer by layer. Arc a has the sides a and a + 1. */
    private static final class Net {
        private final int[] head = new int[NET_NODES];
        private final int[] cursor = new int[NET_NODES];
        private final int[] level = new int[NET_NODES];
        private final int[] queue = new int[NET_NODES];
        private final int[] path = new int[NET_NODES];
        private final int[] next = new int[NET_SIDES];
        private final int[] target = new int[NET_SIDES];
        private final int[] room = new int[NET_SIDES];
        private int nodes;
        private int sides;

        void begin(int n) {
            nodes = Math.max(0, Math.min(n, NET_NODES));
            sides = 0;
            Arrays.fill(head, -1);
        }

        /** The arc's number; -1 if it can't be. */
        int join(int from, int to, int capacity) {
            if (!isInNet(from) || !isInNet(to) || sides + 2 > NET_SIDES) {
                return -1;
            }
            addSide(from, to, capacity);
            addSide(to, from, 0);
            return sides - 2;
        }

        private boolean isInNet(int node) {
            return node >= 0 && node < nodes;
        }

        private void addSide(int from, int to, int capacity) {
            target[sides] = to;
            room[sides] = capacity;
            next[sides] = head[from];
            head[from] = sides;
            sides++;
        }

        /** What flows by an arc; it can't be used any more then. */
        int close(int arc) {
            if (arc < 0 || arc + 1 >= sides) {
                return 0;
            }
            int flows = room[arc + 1];
            room[arc] = 0;
            room[arc + 1] = 0;
            return flows;
        }

        /** As much more as can pass. */
        int pass(int start, int end) {
            int total = 0;
            if (!isInNet(start) || !isInNet(end) || start == end) {
                return total;
            }
            for (int round = 0; round < NET_NODES && layered(start, end); round++) {
                total += passLayered(start, end);
            }
            return total;
        }

        private boolean layered(int start, int end) {
            Arrays.fill(level, 0, nodes, -1);
            level[start] = 0;
            queue[0] = start;
            int known = 1;
            for (int i = 0; i < known && i < NET_NODES && level[end] < 0; i++) {
                int node = queue[i];
                int side = head[node];
                for (int n = 0; n < NET_SIDES && side >= 0; n++) {
                    if (room[side] > 0 && level[target[side]] < 0 && known < NET_NODES) {
                        level[target[side]] = level[node] + 1;
                        queue[known] = target[side];
                        known++;
                    }
                    side = next[side];
                }
            }
            return level[end] >= 0;
        }

        private int passLayered(int start, int end) {
            System.arraycopy(head, 0, cursor, 0, nodes);
            int total = 0;
            int depth = 0;
            int node = start;
            for (int turn = 0; turn < TURNS; turn++) {
                if (node == end) {
                    total += passPath(depth);
                    depth = 0;
                    node = start;
                    continue;
                }
                int side = deeperSide(node);
                if (side >= 0 && depth < NET_NODES) {
                    path[depth] = side;
                    depth++;
                    node = target[side];
                } else if (depth > 0) {
                    // A dead end: no later path of this layering comes here again.
                    level[node] = -1;
                    depth--;
                    node = target[path[depth] ^ 1];
                } else {
                    break;
                }
            }
            return total;
        }

        private int deeperSide(int node) {
            int side = cursor[node];
            for (int n = 0; n < NET_SIDES && side >= 0; n++) {
                if (room[side] > 0 && level[target[side]] == level[node] + 1) {
                    break;
                }
                side = next[side];
            }
            cursor[node] = side;
            return side;
        }

        private int passPath(int depth) {
            int amount = ENOUGH;
            for (int k = 0; k < depth; k++) {
                amount = Math.min(amount, room[path[k]]);
            }
            for (int k = 0; k < depth; k++) {
                room[path[k]] -= amount;
                room[path[k] ^ 1] += amount;
            }
            return amount;
        }
    }

    /** The questions that are put to a net. */
    private static final class Models {
        private final Net net = new Net();
        private final int[] need = new int[NODES];
        private final int[] reached = new int[TOP_REACH + 1];

        /** MOST, if a set of gates were shut, and one gate (-1: none) were wider. */
        int mostIf(Gates g, int shut, int wider, int by) {
            net.begin(NODES);
            for (int e = 0; e < g.count; e++) {
                int capacity = g.usable(e) + (e == wider ? by : 0);
                if (capacity > 0 && !hasBit(shut, e)) {
                    net.join(g.from[e], g.to[e], capacity);
                }
            }
            return net.pass(g.source, g.sink);
        }

        /** A way back from the sink makes all a ring, so values below 0 are none. */
        int boundValue(Gates g, boolean greatest) {
            int giver = NODES;
            int taker = NODES + 1;
            net.begin(NODES + 2);
            joinAboveLeast(g);
            int back = net.join(g.sink, g.source, ENOUGH);
            int needed = 0;
            for (int v = 0; v < NODES; v++) {
                if (need[v] > 0) {
                    net.join(giver, v, need[v]);
                    needed += need[v];
                } else if (need[v] < 0) {
                    net.join(v, taker, -need[v]);
                }
            }
            if (net.pass(giver, taker) < needed) {
                return NO_SUCH;
            }
            int value = net.close(back);
            return greatest
                ? value + net.pass(g.source, g.sink)
                : Math.max(0, value - net.pass(g.sink, g.source));
        }

        /** Joins what each gate may carry above its least, and notes what the least ones bring and take. */
        private void joinAboveLeast(Gates g) {
            Arrays.fill(need, 0);
            for (int e = 0; e < g.count; e++) {
                int least = g.usableLeast(e);
                net.join(g.from[e], g.to[e], g.usable(e) - least);
                need[g.to[e]] += least;
                need[g.from[e]] -= least;
            }
        }

        int waysApart(Gates g, boolean byNodes) {
            net.begin(2 * NODES);
            for (int v = 0; v < NODES; v++) {
                boolean once = byNodes && v != g.source && v != g.sink;
                net.join(v, NODES + v, once ? 1 : ENOUGH);
            }
            for (int e = 0; e < g.count; e++) {
                if (g.usable(e) > 0) {
                    net.join(NODES + g.from[e], g.to[e], 1);
                }
            }
            return net.pass(g.source, NODES + g.sink);
        }

        int inHours(Gates g, int n) {
            net.begin(NET_NODES);
            for (int t = 0; t < n; t++) {
                for (int e = 0; e < g.count; e++) {
                    boolean helps = g.usable(e) > 0 && g.from[e] != g.sink && g.to[e] != g.source;
                    if (helps && t + g.delay[e] <= n) {
                        net.join(nodeAt(g, g.from[e], t), nodeAt(g, g.to[e], t + g.delay[e]), g.usable(e));
                    }
                }
                for (int v = 0; v < NODES; v++) {
                    if (v != g.source && v != g.sink) {
                        net.join(nodeAt(g, v, t), nodeAt(g, v, t + 1), ENOUGH);
                    }
                }
            }
            return net.pass(nodeAt(g, g.source, 0), nodeAt(g, g.sink, 0));
        }

        /** The ends are the same at all times: the one never lacks water, the other one keeps it. */
        private static int nodeAt(Gates g, int node, int time) {
            boolean isEnd = node == g.source || node == g.sink;
            return node * (TOP_HOURS + 1) + (isEnd ? 0 : time);
        }

        int reachedIn(Gates g, int node, int hours) {
            reached[0] = 1 << node;
            for (int t = 1; t <= hours && t <= TOP_REACH; t++) {
                reached[t] = reached[t - 1];
                for (int e = 0; e < g.count; e++) {
                    boolean inTime = g.usable(e) > 0 && g.delay[e] <= t;
                    if (inTime && hasBit(reached[t - g.delay[e]], g.from[e])) {
                        reached[t] |= 1 << g.to[e];
                    }
                }
            }
            return hours >= 0 && hours <= TOP_REACH ? reached[hours] : 0;
        }
    }

    /** The tape, and where its reader stands; the first fault is kept. */
    private static final class Tape {
        private final byte[] bytes = new byte[TAPE_BYTES];
        int length;
        int place;
        int fault = -1;

        boolean add(int letter) {
            if (length < 0 || length >= TAPE_BYTES) {
                return false;
            }
            bytes[length] = (byte) letter;
            length++;
            return true;
        }

        void begin() {
            place = 0;
            fault = -1;
        }

        void fail(int at) {
            if (fault < 0) {
                fault = at;
            }
        }

        boolean isAtEnd() {
            return place >= length;
        }

        int byteAt(int i) {
            return i >= 0 && i < length && i < TAPE_BYTES ? bytes[i] : 0;
        }

        boolean takes(char sign) {
            if (byteAt(place) != sign) {
                return false;
            }
            place++;
            return true;
        }

        void expect(char sign) {
            if (!takes(sign)) {
                fail(place);
            }
        }

        int number() {
            int begin = place;
            int value = 0;
            for (int n = 0; n < 3 && byteAt(place) >= '0' && byteAt(place) <= '9'; n++) {
                value = value * 10 + byteAt(place) - '0';
                place++;
            }
            if (place == begin) {
                fail(begin);
            }
            return value;
        }
    }

    /** Conditions: each part of one is worked out as the set of the gates of which it is so. */
    private static final class Condition {
        private static final int WORDS = 8;
        /** At each depth of brackets: what was so ahead of the last |, what is so behind it, an odd number of !. */
        private final int[] ahead = new int[NEST + 1];
        private final int[] behind = new int[NEST + 1];
        private final int[] flip = new int[NEST + 1];
        private int depth;

        int holding(Tape t, Gates g, int[] number) {
            openBracket(0);
            boolean due = true;
            // Each turn takes a byte or more, but the last one.
            for (int n = 0; n <= TAPE_BYTES && t.fault < 0; n++) {
                if (due && takeOpening(t)) {
                    continue;
                }
                if (due) {
                    putPart(takeComparison(t, g, number));
                    due = false;
                } else if (t.isAtEnd()) {
                    break;
                } else {
                    due = takeJoint(t);
                }
            }
            if (depth > 0) {
                t.fail(t.place);
            }
            return (ahead[0] | behind[0]) & g.allBits();
        }

        /** Whether there was one of those behind which a part is due still. */
        private boolean takeOpening(Tape t) {
            if (t.takes('!')) {
                flip[depth] ^= 1;
                return true;
            }
            if (depth < NEST && t.takes('(')) {
                openBracket(depth + 1);
                return true;
            }
            return false;
        }

        /** What may stand behind a part; whether one is due then. */
        private boolean takeJoint(Tape t) {
            if (t.takes('&')) {
                return true;
            }
            if (t.takes('|')) {
                ahead[depth] |= behind[depth];
                behind[depth] = -1;
                return true;
            }
            if (depth > 0 && t.takes(')')) {
                int bits = ahead[depth] | behind[depth];
                depth--;
                putPart(bits);
            } else {
                t.fail(t.place);
            }
            return false;
        }

        private void openBracket(int to) {
            depth = Math.max(0, Math.min(to, NEST));
            ahead[depth] = 0;
            behind[depth] = -1;
            flip[depth] = 0;
        }

        private void putPart(int bits) {
            behind[depth] &= flip[depth] == 1 ? ~bits : bits;
            flip[depth] = 0;
        }

        private int takeComparison(Tape t, Gates g, int[] number) {
            int word = takeWord(t);
            int sign = t.byteAt(t.place);
            if (!t.takes('<') && !t.takes('=')) {
                t.expect('>');
            }
            int than = t.number();
            int bits = 0;
            for (int e = 0; e < g.count && e < number.length && t.fault < 0; e++) {
                int value = valueOf(word, g, e, number[e]);
                boolean so = sign == '<' ? value < than : sign == '>' ? value > than : value == than;
                bits |= so ? 1 << e : 0;
            }
            return bits;
        }

        /** The word's number; a fault if it is none. */
        private int takeWord(Tape t) {
            int begin = t.place;
            for (int n = 0; n < TAPE_BYTES && t.byteAt(t.place) >= 'a' && t.byteAt(t.place) <= 'z'; n++) {
                t.place++;
            }
            for (int word = 0; word < WORDS; word++) {
                if (isWord(t, begin, nameOf(word))) {
                    return word;
                }
            }
            t.fail(begin);
            return -1;
        }

        private static boolean isWord(Tape t, int begin, String name) {
            if (t.place - begin != name.length()) {
                return false;
            }
            for (int k = 0; k < name.length(); k++) {
                if (t.byteAt(begin + k) != name.charAt(k)) {
                    return false;
                }
            }
            return true;
        }

        private static String nameOf(int word) {
            switch (word) {
                case 0: return "from";
                case 1: return "to";
                case 2: return "cap";
                case 3: return "least";
                case 4: return "delay";
                case 5: return "water";
                case 6: return "room";
                default: return "shut";
            }
        }

        private static int valueOf(int word, Gates g, int e, int water) {
            switch (word) {
                case 0: return g.from[e];
                case 1: return g.to[e];
                case 2: return g.capacity[e];
                case 3: return g.least[e];
                case 4: return g.delay[e];
                case 5: return water;
                case 6: return g.capacity[e] - water;
                default: return 1 - g.open[e];
            }
        }
    }

    /** The latest spelling of all gates. */
    private static final class Paper {
        final byte[] bytes = new byte[PAPER_BYTES];
        int size;

        void write(Gates g) {
            size = 0;
            for (int e = 0; e < g.count; e++) {
                if (e > 0) {
                    putSign(';');
                }
                putNumber(g.from[e]);
                putSign('>');
                putNumber(g.to[e]);
                putSign(':');
                putPassage(g.least[e], g.capacity[e], g.delay[e]);
                if (g.open[e] == 0) {
                    putSign('x');
                }
            }
        }

        private void putPassage(int least, int capacity, int delay) {
            if (least != 0) {
                putNumber(least);
                putSign('-');
            }
            putNumber(capacity);
            if (delay != 1) {
                putSign('@');
                putNumber(delay);
            }
        }

        private void putNumber(int n) {
            if (n >= 100) {
                putSign('0' + n / 100);
            }
            if (n >= 10) {
                putSign('0' + n / 10 % 10);
            }
            putSign('0' + n % 10);
        }

        private void putSign(int sign) {
            if (size >= 0 && size < PAPER_BYTES) {
                bytes[size] = (byte) sign;
                size++;
            }
        }
    }

    /** The lists, one row each; a size of -1: nothing is held. */
    private static final class Lists {
        private final int[] values = new int[LISTS * LIST_PLACES];
        private final int[] sizes = new int[LISTS];

        Lists() {
            Arrays.fill(sizes, -1);
        }

        void become(int list, int n) {
            if (isList(list) && n >= 0 && n <= LIST_PLACES) {
                sizes[list] = n;
                Arrays.fill(values, list * LIST_PLACES, list * LIST_PLACES + n, 0);
            }
        }

        boolean holds(int list) {
            return isList(list) && sizes[list] >= 0;
        }

        boolean hasPlace(int list, int i) {
            return isList(list) && i >= 0 && i < sizes[list];
        }

        int value(int list, int i) {
            return hasPlace(list, i) ? values[list * LIST_PLACES + i] : 0;
        }

        void put(int list, int i, int v) {
            if (hasPlace(list, i)) {
                values[list * LIST_PLACES + i] = v;
            }
        }

        int judged(int list, int i, Gates g) {
            if (g.count > 0 && !hasPlace(list, Math.min(i, LIST_PLACES) + g.count - 1)) {
                return NO_SUCH;
            }
            for (int e = 0; e < g.count; e++) {
                int number = value(list, i + e);
                if (number < 0 || number > g.usable(e)) {
                    return e;
                }
            }
            for (int v = 0; v < NODES; v++) {
                if (v != g.source && v != g.sink && goesLessComes(list, i, g, v) != 0) {
                    return 100 + v;
                }
            }
            return 100000 + goesLessComes(list, i, g, g.source);
        }

        private int goesLessComes(int list, int i, Gates g, int node) {
            int sum = 0;
            for (int e = 0; e < g.count; e++) {
                int number = value(list, i + e);
                sum += g.from[e] == node ? number : 0;
                sum -= g.to[e] == node ? number : 0;
            }
            return sum;
        }
    }
}
