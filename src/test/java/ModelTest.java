/** Long runs of calls that look like chance, each answer held against the model's. */
final class ModelTest {
    private static final int[] ODD = {-1, 0, -2, 1 << 30, Integer.MAX_VALUE, Integer.MIN_VALUE, 12, 30, 31, 40, 41, 89, 999, 1000};
    private static final String[] PARTS = {
        "from", "to", "cap", "least", "delay", "water", "room", "shut", "caps", "x", "<", "=", ">", "&", "|", "!", "(", ")",
        "0", "1", "5", "12", "100", "1000", ":", "-", "@", ";", " "
    };

    private final Check.Row chance;
    private final GateFlow x = new GateFlow();
    private final Model m = new Model();
    private final int seed;
    private final int nodes;
    private final int top;
    private final String run;
    private int calls = 0;

    private ModelTest(int seed) {
        this.seed = seed;
        chance = new Check.Row(seed);
        int kind = seed % 4;
        nodes = kind == 0 ? 6 : kind == 1 ? 4 : kind == 2 ? 8 : 12;
        top = seed % 3 == 0 ? 3 : seed % 3 == 1 ? 20 : 1000;
        run = "run " + seed + ": ";
    }

    private void due(String call, int got, int want) {
        calls++;
        Check.due(run + call, got, want);
    }

    private int node() {
        int v = chance.below(nodes);
        return v == nodes - 1 ? 11 : v;
    }

    private int gate() {
        return chance.below(12) == 0 ? odd() : chance.below(Math.max(1, m.gates.size()));
    }

    private int odd() {
        return ODD[chance.below(ODD.length)];
    }

    private int orOdd(int value) {
        return chance.below(15) == 0 ? odd() : value;
    }

    private int bit() {
        return orOdd(chance.below(2));
    }

    private void build() {
        if (seed % 5 == 0) {
            buildThin();
            return;
        }
        int n = chance.below(4) == 0 ? 30 : 3 + chance.below(20);
        for (int i = 0; i < n; i++) {
            addGate();
        }
    }

    /** Few gates that let little through: shortest ways block one another, so steps backward are needed. */
    private void buildThin() {
        int between = 4 + chance.below(7), n = 12 + chance.below(8);
        for (int i = 0; i < n; i++) {
            int from = chance.below(between + 1), to = 1 + chance.below(between + 1), cap = 1 + chance.below(3);
            if (to == between + 1) {
                to = 11;
            }
            due("gate " + from + " " + to + " " + cap, x.gate(from, to, 0, cap, 1), m.gate(from, to, 0, cap, 1));
        }
        for (int i = -1; i < m.ways(-1, 0); i++) {
            for (int what = 0; what < 16; what++) {
                due("ways " + i + " " + what, x.ways(i, what), m.ways(i, what));
            }
        }
        for (int i = -1; i < m.lines(-1, 0); i++) {
            due("lines " + i, x.lines(i, 2), m.lines(i, 2));
        }
    }

    private void addGate() {
        int from = node(), to = node(), cap = orOdd(chance.below(top)), delay = orOdd(1 + chance.below(3));
        int least = chance.below(4) == 0 ? orOdd(chance.below(Math.max(1, Math.min(5, cap)))) : 0;
        due("gate " + from + " " + to + " " + least + " " + cap + " " + delay,
            x.gate(from, to, least, cap, delay), m.gate(from, to, least, cap, delay));
    }

    private void change() {
        int g = gate(), v;
        switch (chance.below(9)) {
            case 0: v = orOdd(chance.below(top)); due("widen " + g + " " + v, x.widen(g, v), m.widen(g, v)); break;
            case 1: v = orOdd(chance.below(4)); due("bind " + g + " " + v, x.bind(g, v), m.bind(g, v)); break;
            case 2: case 3: v = bit(); due("turn " + g + " " + v, x.turn(g, v), m.turn(g, v)); break;
            case 4: due("drop", x.drop(), m.drop()); break;
            case 5: int s = orOdd(node()), t = orOdd(node()); due("ends " + s + " " + t, x.ends(s, t), m.ends(s, t)); break;
            case 6: due("image", x.image(), m.image()); break;
            case 7: due("undo", x.undo(), m.undo()); break;
            default: addGate(); break;
        }
    }

    private void ask() {
        int g = gate(), i = orOdd(chance.below(8) - 1), v;
        switch (chance.below(22)) {
            case 0: due("most", x.most(), m.most()); break;
            case 1: due("water " + g, x.water(g), m.ofWater(g)); break;
            case 2: v = what(); due("ways " + i + " " + v, x.ways(i, v), m.ways(i, v)); break;
            case 3: due("byHeights " + g, x.byHeights(g), m.byHeights(g)); break;
            case 4: i = orOdd(chance.below(13) - 1); v = orOdd(chance.below(3)); due("heights " + i + " " + v, x.heights(i, v), m.heights(i, v)); break;
            case 5: due("near", x.near(), m.near()); break;
            case 6: due("far", x.far(), m.far()); break;
            case 7: v = bit(); due("cut " + v, x.cut(v), m.cut(v)); break;
            case 8: due("wide", x.wide(), m.wide()); break;
            case 9: due("narrow", x.narrow(), m.narrow()); break;
            case 10: v = orOdd(chance.below(top)); due("more " + g + " " + v, x.more(g, v), m.more(g, v)); break;
            case 11: v = orOdd(chance.below(1 << Math.min(30, m.gates.size()))); due("loss " + v, x.loss(v), m.loss(v)); break;
            case 12: v = what(); due("lines " + i + " " + v, x.lines(i, v), m.lines(i, v)); break;
            case 13: v = bit(); due("bound " + v, x.bound(v), m.bound(v)); break;
            case 14: v = bit(); due("apart " + v, x.apart(v), m.apart(v)); break;
            case 15: v = orOdd(1 + chance.below(5)); if (m.between().size() <= 4 || v < 1 || v > 8) due("hours " + v, x.hours(v), m.hours(v)); break;
            case 16: v = orOdd(chance.below(4)); due("two " + i + " " + v, x.two(i, v), m.two(i, v)); break;
            case 17: v = orOdd(node()); i = orOdd(chance.below(8)); due("reach " + v + " " + i, x.reach(v, i), m.reach(v, i)); break;
            case 18: v = orOdd(chance.below(6)); due("of " + g + " " + v, x.of(g, v), m.of(g, v)); break;
            case 19: v = orOdd(chance.below(4)); if (m.gates.size() < 16) due("worst " + v, x.worst(v), m.worst(v)); break;
            default: v = orOdd(chance.below(11)); due("told " + v, x.told(v), m.told(v)); break;
        }
    }

    private int what() {
        return orOdd(chance.below(3) == 0 ? chance.below(4) : 10 + chance.below(5));
    }

    private void lists() {
        int l = orOdd(chance.below(3)), i = orOdd(chance.below(6)), v;
        switch (chance.below(6)) {
            case 0: v = orOdd(chance.below(41)); due("list " + l + " " + v, x.list(l, v), m.list(l, v)); break;
            case 1: v = odd(); due("set " + l + " " + i + " " + v, x.set(l, i, v), m.set(l, i, v)); break;
            case 2: due("get " + l + " " + i, x.get(l, i), m.get(l, i)); break;
            case 3: case 4:
                v = bit();
                due("lay " + l + " " + i + " " + v, x.lay(l, i, v), m.lay(l, i, v));
                due("judge " + l + " " + i, x.judge(l, i), m.judge(l, i));
                for (int k = 0; k < 8; k++) due("get " + l + " " + k, x.get(l, k), m.get(l, k));
                break;
            default: due("judge " + l + " " + i, x.judge(l, i), m.judge(l, i)); break;
        }
    }

    private void feed(String text) {
        for (int i = 0; i < text.length(); i++) {
            due("feed " + text.charAt(i), x.feed(text.charAt(i)), m.feed(text.charAt(i)));
        }
    }

    private String anyText() {
        StringBuilder text = new StringBuilder();
        int n = chance.below(10);
        for (int i = 0; i < n; i++) text.append(PARTS[chance.below(PARTS.length)]);
        return text.toString();
    }

    private String conditionText(int depth) {
        switch (depth > 6 ? 0 : chance.below(7)) {
            case 1: return "!" + conditionText(depth + 1);
            case 2: return "(" + conditionText(depth + 1) + ")";
            case 3: return conditionText(depth + 1) + "&" + conditionText(depth + 1);
            case 4: return conditionText(depth + 1) + "|" + conditionText(depth + 1);
            default: return Model.WORDS.get(chance.below(8)) + "<=>".charAt(chance.below(3)) + chance.below(chance.below(2) == 0 ? 4 : top);
        }
    }

    private String bookText() {
        StringBuilder text = new StringBuilder();
        int n = 1 + chance.below(3);
        for (int i = 0; i < n; i++) {
            text.append(i > 0 ? ";" : "").append(node()).append('>').append(node()).append(':');
            if (chance.below(3) == 0) text.append(chance.below(6)).append('-');
            text.append(chance.below(top));
            if (chance.below(3) == 0) text.append('@').append(chance.below(5));
            if (chance.below(4) == 0) text.append('x');
        }
        return text.toString();
    }

    private String spoiled(String text) {
        int at = chance.below(text.length() + 1);
        switch (chance.below(4)) {
            case 0: return text.substring(0, at);
            case 1: return text.substring(0, at) + PARTS[chance.below(PARTS.length)] + text.substring(at);
            default: return text;
        }
    }

    private void texts() {
        int kind = chance.below(7);
        String text = kind == 0 ? anyText() : spoiled(kind < 5 ? conditionText(0) : bookText());
        if (calls + text.length() > 480) {
            return;
        }
        feed(text);
        int v = bit();
        switch (kind) {
            case 1: due("pick " + text, x.pick(), m.condition()); break;
            case 2: due("many " + text, x.many(), m.many()); break;
            case 3: due("shutAll " + v + " " + text, x.shutAll(v), m.shutAll(v)); break;
            case 4: due("clear", x.clear(), m.clear()); break;
            default: due("read " + text, x.read(), m.read()); break;
        }
        due("tape", x.told(6), m.told(6));
        if (chance.below(2) == 0) {
            due("spell", x.spell(), m.spell());
            v = orOdd(chance.below(60));
            due("paper " + v, x.paper(v), m.paper(v));
        }
        if (calls < 300 && chance.below(6) == 0) Check.dueText(run + "the paper", Check.paper(x), m.paper);
    }

    private void go() {
        build();
        while (calls < 480) {
            int kind = chance.below(12);
            if (kind < 7) ask();
            else if (kind < 9) change();
            else if (kind < 10) lists();
            else texts();
        }
    }

    public static void main(String[] args) {
        int runs = args.length > 0 ? Integer.parseInt(args[0]) : 400;
        for (int seed = 1; seed <= runs; seed++) {
            new ModelTest(seed).go();
        }
        Check.end("ModelTest");
    }
}
