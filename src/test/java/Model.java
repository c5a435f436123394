import java.util.ArrayDeque;
import java.util.ArrayList;
import java.util.Arrays;
import java.util.LinkedHashMap;
import java.util.List;
import java.util.Map;

/**
 * The document told once more, slowly and by other means: the most that can pass by looking at all
 * cuts, ways by trying all paths, texts by a reader that goes down into itself and throws its fault.
 */
final class Model {
    static final int NODES = 12;

    static final class Gate {
        int from, to, least, capacity, delay;
        boolean open = true;

        Gate(int from, int to, int least, int capacity, int delay) {
            this.from = from;
            this.to = to;
            this.least = least;
            this.capacity = capacity;
            this.delay = delay;
        }

        Gate copy() {
            Gate g = new Gate(from, to, least, capacity, delay);
            g.open = open;
            return g;
        }

        int cap() { return open ? capacity : 0; }

        int low() { return open ? least : 0; }
    }

    static final class Fault extends RuntimeException {
        final int place;

        Fault(int place) {
            super("fault", null, false, false);
            this.place = place;
        }
    }

    List<Gate> gates = new ArrayList<>();
    int source = 0, sink = 11;
    List<Gate> imageGates;
    int imageSource, imageSink;
    final StringBuilder tape = new StringBuilder();
    String paper = "";
    final int[][] lists = new int[4][];

    // ---- gates ----

    boolean isNode(int v) { return v >= 0 && v <= 11; }

    boolean isGate(int g) { return g >= 0 && g < gates.size(); }

    int gate(int from, int to, int least, int capacity, int delay) {
        if (!isNode(from) || !isNode(to) || from == to) return -1;
        if (capacity < 0 || capacity > 999 || least < 0 || least > capacity || delay < 1 || delay > 3) return -2;
        if (gates.size() == 30) return -4;
        gates.add(new Gate(from, to, least, capacity, delay));
        return gates.size() - 1;
    }

    int of(int g, int what) {
        if (!isGate(g) || what < 0 || what > 5) return -1;
        Gate x = gates.get(g);
        return new int[] {x.from, x.to, x.least, x.capacity, x.delay, x.open ? 1 : 0}[what];
    }

    int widen(int g, int capacity) {
        if (!isGate(g)) return -1;
        Gate x = gates.get(g);
        if (capacity < 0 || capacity > 999 || capacity < x.least) return -2;
        int was = x.capacity;
        x.capacity = capacity;
        return was;
    }

    int bind(int g, int least) {
        if (!isGate(g)) return -1;
        Gate x = gates.get(g);
        if (least < 0 || least > x.capacity) return -2;
        int was = x.least;
        x.least = least;
        return was;
    }

    int turn(int g, int open) {
        if (!isGate(g) || open < 0 || open > 1) return -1;
        Gate x = gates.get(g);
        int was = x.open ? 1 : 0;
        x.open = open == 1;
        return was;
    }

    int drop() {
        if (gates.isEmpty()) return -3;
        gates.remove(gates.size() - 1);
        return gates.size();
    }

    int ends(int s, int t) {
        if (!isNode(s) || !isNode(t) || s == t) return -1;
        source = s;
        sink = t;
        return 1;
    }

    // ---- most: the least of all cuts ----

    int[] caps() {
        int[] caps = new int[gates.size()];
        for (int g = 0; g < caps.length; g++) caps[g] = gates.get(g).cap();
        return caps;
    }

    int leastCut(int[] caps) {
        int best = Integer.MAX_VALUE;
        for (int x = 0; x < 1 << NODES; x++) {
            if ((x >> source & 1) == 0 || (x >> sink & 1) == 1) continue;
            int sum = 0;
            for (int g = 0; g < caps.length; g++) {
                Gate a = gates.get(g);
                if ((x >> a.from & 1) == 1 && (x >> a.to & 1) == 0) sum += caps[g];
            }
            best = Math.min(best, sum);
        }
        return best;
    }

    int most() { return leastCut(caps()); }

    // ---- by ways: the first of the shortest, by trying all of a length ----

    static final class Way {
        int amount;
        List<Integer> steps;
    }

    int[] water;
    List<Way> ways;

    int room(int step, int[] f) {
        return step < 100 ? gates.get(step).cap() - f[step] : f[step - 100];
    }

    int head(int step) { return step < 100 ? gates.get(step).to : gates.get(step - 100).from; }

    List<Integer> stepsOf(int node) {
        List<Integer> steps = new ArrayList<>();
        for (int g = 0; g < gates.size(); g++) if (gates.get(g).from == node) steps.add(g);
        for (int g = 0; g < gates.size(); g++) if (gates.get(g).to == node) steps.add(100 + g);
        return steps;
    }

    boolean tryLength(int node, int length, List<Integer> way, int seen) {
        if (node == sink) return length == 0;
        if (length == 0) return false;
        for (int step : stepsOf(node)) {
            if (room(step, water) <= 0 || (seen >> head(step) & 1) == 1) continue;
            way.add(step);
            if (tryLength(head(step), length - 1, way, seen | 1 << head(step))) return true;
            way.remove(way.size() - 1);
        }
        return false;
    }

    void runWays() {
        water = new int[gates.size()];
        ways = new ArrayList<>();
        for (int length = 1; length < NODES; ) {
            Way way = new Way();
            way.steps = new ArrayList<>();
            // No way gets shorter while water is poured, so the length only grows.
            if (!tryLength(source, length, way.steps, 1 << source)) {
                length++;
                continue;
            }
            way.amount = Integer.MAX_VALUE;
            for (int s : way.steps) way.amount = Math.min(way.amount, room(s, water));
            for (int s : way.steps) {
                if (s < 100) water[s] += way.amount; else water[s - 100] -= way.amount;
            }
            ways.add(way);
        }
    }

    int ofWater(int g) {
        if (!isGate(g)) return -1;
        runWays();
        return water[g];
    }

    int ways(int i, int what) {
        runWays();
        if (i == -1) return ways.size();
        if (i < 0 || i >= ways.size()) return -1;
        Way w = ways.get(i);
        if (what == 0) return w.amount;
        if (what == 1) return w.steps.size();
        return what >= 10 && what < 10 + w.steps.size() ? w.steps.get(what - 10) : -1;
    }

    // ---- by heights ----

    int[] pushed, height, lifted, served, excess;
    int pushes;
    ArrayDeque<Integer> waiting;

    void pour(int step, int amount, int from) {
        if (step < 100) pushed[step] += amount; else pushed[step - 100] -= amount;
        int to = head(step);
        excess[from] -= amount;
        excess[to] += amount;
        pushes++;
        if (to != source && to != sink && !waiting.contains(to)) waiting.addLast(to);
    }

    void runHeights() {
        pushed = new int[gates.size()];
        height = new int[NODES];
        lifted = new int[NODES];
        served = new int[NODES];
        excess = new int[NODES];
        pushes = 0;
        waiting = new ArrayDeque<>();
        height[source] = 12;
        for (int g = 0; g < gates.size(); g++) {
            if (gates.get(g).from == source && gates.get(g).cap() > 0) pour(g, gates.get(g).cap(), source);
        }
        while (!waiting.isEmpty()) {
            int v = waiting.peekFirst();
            served[v]++;
            while (excess[v] > 0) {
                boolean done = false;
                int low = 1000;
                for (int step : stepsOf(v)) {
                    if (room(step, pushed) <= 0) continue;
                    low = Math.min(low, height[head(step)]);
                    if (height[head(step)] + 1 == height[v]) {
                        pour(step, Math.min(excess[v], room(step, pushed)), v);
                        done = true;
                        break;
                    }
                }
                if (!done) {
                    height[v] = low + 1;
                    lifted[v]++;
                }
            }
            waiting.removeFirst();
        }
    }

    int byHeights(int g) {
        if (!isGate(g)) return -1;
        runHeights();
        return pushed[g];
    }

    int heights(int node, int what) {
        runHeights();
        if (node == -1 && what == 0) return pushes;
        if (!isNode(node) || what < 0 || what > 2) return -1;
        return (what == 0 ? height : what == 1 ? lifted : served)[node];
    }

    // ---- cuts and worth ----

    int spread(int v, int seen) {
        seen |= 1 << v;
        for (int step : stepsOf(v)) {
            if (room(step, water) > 0 && (seen >> head(step) & 1) == 0) seen = spread(head(step), seen);
        }
        return seen;
    }

    int near() {
        runWays();
        return spread(source, 0);
    }

    int far() {
        runWays();
        int bits = 0;
        for (int v = 0; v < NODES; v++) if ((spread(v, 0) >> sink & 1) == 1) bits |= 1 << v;
        return bits;
    }

    int cut(int which) {
        if (which != 0 && which != 1) return -1;
        int near = near(), far = far(), bits = 0;
        for (int g = 0; g < gates.size(); g++) {
            Gate a = gates.get(g);
            boolean in = which == 0 ? (near >> a.from & 1) == 1 && (near >> a.to & 1) == 0
                                    : (far >> a.from & 1) == 0 && (far >> a.to & 1) == 1;
            if (a.open && in) bits |= 1 << g;
        }
        return bits;
    }

    int changed(int g, int by) {
        int[] caps = caps();
        caps[g] += by;
        return leastCut(caps);
    }

    int wide() {
        int bits = 0, most = most();
        for (int g = 0; g < gates.size(); g++) if (gates.get(g).open && changed(g, 1) > most) bits |= 1 << g;
        return bits;
    }

    int narrow() {
        int bits = 0, most = most();
        for (int g = 0; g < gates.size(); g++) if (gates.get(g).cap() > 0 && changed(g, -1) < most) bits |= 1 << g;
        return bits;
    }

    int more(int g, int n) {
        if (!isGate(g)) return -1;
        if (n < 0 || n > 999) return -2;
        if (!gates.get(g).open) return -3;
        return changed(g, n) - most();
    }

    int lossOf(int set) {
        int[] caps = caps();
        for (int g = 0; g < caps.length; g++) if ((set >> g & 1) == 1) caps[g] = 0;
        return most() - leastCut(caps);
    }

    int loss(int set) {
        if (set < 0 || set >= 1L << gates.size()) return -2;
        return lossOf(set);
    }

    int worst(int what) {
        if (what < 0 || what > 3) return -1;
        int n = gates.size(), best = -1, name = -5;
        if (what < 2) {
            for (int a = 0; a < n; a++) {
                int l = lossOf(1 << a);
                if (l > best) { best = l; name = a; }
            }
        } else {
            for (int a = 0; a < n; a++) for (int b = a + 1; b < n; b++) {
                int l = lossOf(1 << a | 1 << b);
                if (l > best) { best = l; name = 100 * a + b; }
            }
        }
        return name == -5 ? -5 : what % 2 == 0 ? name : best;
    }

    // ---- lines ----

    static final class Strand {
        int amount;
        boolean ring;
        List<Integer> gates;
    }

    List<Strand> strands() {
        runWays();
        int[] left = water.clone();
        List<Strand> all = new ArrayList<>();
        while (leastLeft(source, left) >= 0) {
            List<Integer> way = new ArrayList<>();
            List<Integer> places = new ArrayList<>();
            int at = source;
            Strand s = new Strand();
            while (true) {
                places.add(at);
                int g = leastLeft(at, left);
                way.add(g);
                at = gates.get(g).to;
                if (at == sink) { s.gates = way; break; }
                if (places.contains(at)) {
                    s.ring = true;
                    s.gates = way.subList(places.indexOf(at), way.size());
                    break;
                }
            }
            s.amount = 1000000;
            for (int g : s.gates) s.amount = Math.min(s.amount, left[g]);
            for (int g : s.gates) left[g] -= s.amount;
            all.add(s);
        }
        return all;
    }

    int leastLeft(int node, int[] left) {
        for (int g = 0; g < gates.size(); g++) if (gates.get(g).from == node && left[g] > 0) return g;
        return -1;
    }

    int lines(int i, int what) {
        List<Strand> all = strands();
        if (i == -1) return all.size();
        if (i < 0 || i >= all.size()) return -1;
        Strand s = all.get(i);
        if (what == 0) return s.amount;
        if (what == 1) return s.gates.size();
        if (what == 2) return s.ring ? 1 : 0;
        return what >= 10 && what < 10 + s.gates.size() ? s.gates.get(what - 10) : -1;
    }

    // ---- bounds: what each set of nodes must send and can send ----

    int bound(int what) {
        if (what != 0 && what != 1) return -1;
        int greatest = Integer.MAX_VALUE, smallest = 0;
        for (int x = 0; x < 1 << NODES; x++) {
            int canOut = 0, mustOut = 0, canIn = 0, mustIn = 0;
            for (Gate g : gates) {
                boolean a = (x >> g.from & 1) == 1, b = (x >> g.to & 1) == 1;
                if (a && !b) { canOut += g.cap(); mustOut += g.low(); }
                if (!a && b) { canIn += g.cap(); mustIn += g.low(); }
            }
            boolean hasSource = (x >> source & 1) == 1, hasSink = (x >> sink & 1) == 1;
            if (hasSource && !hasSink) {
                greatest = Math.min(greatest, canOut - mustIn);
                smallest = Math.max(smallest, mustOut - canIn);
            } else if (mustOut > canIn) {
                return -5;
            }
        }
        if (greatest < smallest) return -5;
        return what == 0 ? greatest : smallest;
    }

    // ---- apart: the least that parts the ends ----

    int apart(int kind) {
        if (kind != 0 && kind != 1) return -1;
        int[] ones = caps();
        int straight = 0;
        for (int g = 0; g < ones.length; g++) {
            ones[g] = Math.min(1, ones[g]);
            if (gates.get(g).from == source && gates.get(g).to == sink) straight += ones[g];
        }
        if (kind == 0) return leastCut(ones);
        int best = 100;
        for (int gone = 0; gone < 1 << NODES; gone++) {
            if ((gone >> source & 1) == 1 || (gone >> sink & 1) == 1) continue;
            int seen = 1 << source;
            for (int round = 0; round < NODES; round++) {
                for (int g = 0; g < ones.length; g++) {
                    Gate a = gates.get(g);
                    boolean isStraight = a.from == source && a.to == sink;
                    if (ones[g] == 1 && !isStraight && (seen >> a.from & 1) == 1 && (gone >> a.to & 1) == 0) seen |= 1 << a.to;
                }
            }
            if ((seen >> sink & 1) == 0) best = Math.min(best, Integer.bitCount(gone));
        }
        return best + straight;
    }

    // ---- hours: the least cut over time; a node that is on the source's side stays there ----

    List<Integer> between() {
        List<Integer> between = new ArrayList<>();
        for (Gate g : gates) {
            for (int v : new int[] {g.from, g.to}) if (v != source && v != sink && !between.contains(v)) between.add(v);
        }
        return between;
    }

    int hours(int n) {
        if (n < 1 || n > 8) return -2;
        List<Integer> between = between();
        int[] since = new int[NODES];
        since[sink] = n + 1;
        return leastTimedCut(n, between, 0, since);
    }

    int leastTimedCut(int n, List<Integer> between, int k, int[] since) {
        if (k == between.size()) {
            int sum = 0;
            for (Gate g : gates) {
                for (int t = 0; t + g.delay <= n; t++) {
                    if (t >= since[g.from] && t + g.delay < since[g.to]) sum += g.cap();
                }
            }
            return sum;
        }
        int best = Integer.MAX_VALUE;
        for (int s = 0; s <= n + 1; s++) {
            since[between.get(k)] = s;
            best = Math.min(best, leastTimedCut(n, between, k + 1, since));
        }
        return best;
    }

    int two(int i, int what) {
        Map<Integer, int[]> twos = new LinkedHashMap<>();
        for (Gate g : gates) {
            int[] row = twos.computeIfAbsent(100 * g.from + g.to, k -> new int[] {k / 100, k % 100, 0, 0});
            row[2]++;
            row[3] += g.cap();
        }
        if (i == -1) return twos.size();
        if (i < 0 || i >= twos.size() || what < 0 || what > 3) return -1;
        return new ArrayList<>(twos.values()).get(i)[what];
    }

    int reach(int node, int hours) {
        if (!isNode(node)) return -1;
        if (hours < 0 || hours > 20) return -2;
        return walk(node, hours, new int[NODES]);
    }

    int walk(int node, int hours, int[] best) {
        // best holds 1 more than the hours that were left at an earlier visit
        if (hours < best[node] - 1) return 1 << node;
        best[node] = hours + 1;
        int bits = 1 << node;
        for (Gate g : gates) {
            if (g.from == node && g.cap() > 0 && g.delay <= hours && hours - g.delay + 1 > best[g.to]) {
                bits |= walk(g.to, hours - g.delay, best);
            }
        }
        return bits;
    }

    // ---- texts ----

    int feed(int letter) {
        if (letter < 1 || letter > 127) return -2;
        if (tape.length() == 90) return -4;
        tape.append((char) letter);
        return tape.length();
    }

    int clear() {
        int n = tape.length();
        tape.setLength(0);
        return n;
    }

    String text;
    int at;

    char peek() { return at < text.length() ? text.charAt(at) : 0; }

    void need(char c) {
        if (peek() != c) throw new Fault(at);
        at++;
    }

    boolean may(char c) {
        if (peek() != c) return false;
        at++;
        return true;
    }

    int number() {
        int begin = at;
        while (at < begin + 3 && Character.isDigit(peek())) at++;
        if (at == begin) throw new Fault(at);
        return Integer.parseInt(text.substring(begin, at));
    }

    int read() {
        text = tape.toString();
        tape.setLength(0);
        at = 0;
        List<Gate> come = new ArrayList<>();
        try {
            do {
                if (gates.size() + come.size() == 30) throw new Fault(at);
                int b1 = at, from = number();
                if (from > 11) throw new Fault(b1);
                need('>');
                int b2 = at, to = number();
                if (to > 11 || to == from) throw new Fault(b2);
                need(':');
                int least = 0, capacity = number();
                if (may('-')) {
                    least = capacity;
                    int b3 = at;
                    capacity = number();
                    if (capacity < least) throw new Fault(b3);
                }
                int delay = 1;
                if (may('@')) {
                    int b4 = at;
                    delay = number();
                    if (delay < 1 || delay > 3) throw new Fault(b4);
                }
                Gate g = new Gate(from, to, least, capacity, delay);
                g.open = !may('x');
                come.add(g);
            } while (may(';'));
            if (at < text.length()) throw new Fault(at);
        } catch (Fault f) {
            return -100 - f.place;
        }
        gates.addAll(come);
        return come.size();
    }

    static final List<String> WORDS = Arrays.asList("from", "to", "cap", "least", "delay", "water", "room", "shut");

    interface Test {
        boolean so(int g);
    }

    Test e(int depth) {
        Test a = t(depth);
        while (may('|')) {
            Test left = a, right = t(depth);
            a = g -> left.so(g) || right.so(g);
        }
        return a;
    }

    Test t(int depth) {
        Test a = f(depth);
        while (may('&')) {
            Test left = a, right = f(depth);
            a = g -> left.so(g) && right.so(g);
        }
        return a;
    }

    Test f(int depth) {
        if (may('!')) {
            Test a = f(depth);
            return g -> !a.so(g);
        }
        if (peek() == '(') {
            if (depth == 5) throw new Fault(at);
            at++;
            Test a = e(depth + 1);
            need(')');
            return a;
        }
        int begin = at;
        while (peek() >= 'a' && peek() <= 'z') at++;
        int word = WORDS.indexOf(text.substring(begin, at));
        if (word < 0) throw new Fault(begin);
        char sign = peek();
        if (sign != '<' && sign != '=' && sign != '>') throw new Fault(at);
        at++;
        int than = number();
        return g -> {
            int v = value(word, g);
            return sign == '<' ? v < than : sign == '>' ? v > than : v == than;
        };
    }

    int value(int word, int g) {
        Gate a = gates.get(g);
        return new int[] {a.from, a.to, a.capacity, a.least, a.delay, water[g], a.capacity - water[g], a.open ? 0 : 1}[word];
    }

    /** The gates of which the tape is so; below 0 it is -100 less the fault. */
    int condition() {
        text = tape.toString();
        tape.setLength(0);
        at = 0;
        runWays();
        try {
            Test test = e(0);
            if (at < text.length()) throw new Fault(at);
            int bits = 0;
            for (int g = 0; g < gates.size(); g++) if (test.so(g)) bits |= 1 << g;
            return bits;
        } catch (Fault f) {
            return -100 - f.place;
        }
    }

    int many() {
        int bits = condition();
        return bits < 0 ? bits : Integer.bitCount(bits);
    }

    int shutAll(int open) {
        if (open != 0 && open != 1) return -1;
        int bits = condition();
        if (bits < 0) return bits;
        int n = 0;
        for (int g = 0; g < gates.size(); g++) {
            if ((bits >> g & 1) == 1 && gates.get(g).open != (open == 1)) {
                gates.get(g).open = open == 1;
                n++;
            }
        }
        return n;
    }

    int spell() {
        List<String> parts = new ArrayList<>();
        for (Gate g : gates) {
            parts.add(g.from + ">" + g.to + ":" + (g.least > 0 ? g.least + "-" : "") + g.capacity
                + (g.delay > 1 ? "@" + g.delay : "") + (g.open ? "" : "x"));
        }
        paper = String.join(";", parts);
        return paper.length();
    }

    int paper(int i) { return i >= 0 && i < paper.length() ? paper.charAt(i) : -1; }

    int told(int what) {
        int open = 0, fromSource = 0, toSink = 0, rings = 0;
        for (Gate g : gates) {
            if (!g.open) continue;
            open++;
            if (g.from == source) fromSource += g.capacity;
            if (g.to == sink) toSink += g.capacity;
        }
        if (what == 8) return ways(-1, 0);
        if (what == 9 || what == 10) {
            List<Strand> all = strands();
            for (Strand s : all) if (s.ring) rings++;
            return what == 10 ? rings : all.size() - rings;
        }
        if (what < 0 || what > 10) return -1;
        return new int[] {gates.size(), open, source, sink, fromSource, toSink, tape.length(), paper.length()}[what];
    }

    // ---- lists ----

    int list(int l, int n) {
        if (l < 0 || l > 3) return -1;
        if (n > 40) return -2;
        if (n < 0) return -14;
        lists[l] = new int[n];
        return 1;
    }

    int set(int l, int i, int v) {
        if (l < 0 || l > 3) return -1;
        if (lists[l] == null) return -11;
        if (i < 0 || i >= lists[l].length) return -13;
        lists[l][i] = v;
        return 1;
    }

    int get(int l, int i) {
        if (l < 0 || l > 3 || lists[l] == null || i < 0 || i >= lists[l].length) return -2000000000;
        return lists[l][i];
    }

    int lay(int l, int i, int way) {
        if (l < 0 || l > 3 || way < 0 || way > 1) return -1;
        if (lists[l] == null) return -11;
        runWays();
        runHeights();
        for (int g = 0; g < gates.size(); g++) {
            long place = (long) i + g;
            if (i < 0 || place >= lists[l].length) return -13;
            lists[l][(int) place] = way == 0 ? water[g] : pushed[g];
        }
        return gates.size();
    }

    int judge(int l, int i) {
        if (l < 0 || l > 3) return -1;
        if (lists[l] == null) return -11;
        if (i < 0) return -13;
        int n = gates.size();
        if (n > 0 && (long) i + n > lists[l].length) return -5;
        int[] net = new int[NODES];
        for (int g = 0; g < n; g++) {
            int v = lists[l][i + g];
            if (v < 0 || v > gates.get(g).cap()) return g;
            net[gates.get(g).from] += v;
            net[gates.get(g).to] -= v;
        }
        for (int v = 0; v < NODES; v++) if (v != source && v != sink && net[v] != 0) return 100 + v;
        return 100000 + net[source];
    }

    // ---- the image ----

    int image() {
        imageGates = new ArrayList<>();
        for (Gate g : gates) imageGates.add(g.copy());
        imageSource = source;
        imageSink = sink;
        return gates.size();
    }

    int undo() {
        if (imageGates == null) return -3;
        gates = new ArrayList<>();
        for (Gate g : imageGates) gates.add(g.copy());
        source = imageSource;
        sink = imageSink;
        return gates.size();
    }
}
