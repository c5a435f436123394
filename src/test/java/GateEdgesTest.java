/** The sentences of the document that name a boundary: nodes and gates (section 1), promises 1 to 8, 26, 42, 43. */
final class GateEdgesTest {
    public static void main(String[] args) {
        nodes();
        numbersOfGates();
        numbersOfAGate();
        shut();
        gate();
        of();
        widenAndBind();
        turn();
        drop();
        ends();
        two();
        image();
        calls();
        Check.end("GateEdgesTest");
    }

    private static void nodes() {
        Script.run("NODES are 0 .. 11",
            "gate 0 11 0 1 1 = 0", "gate 11 0 0 1 1 = 1", "gate 12 0 0 1 1 = -1", "gate 0 12 0 1 1 = -1",
            "gate -1 0 0 1 1 = -1", "gate 0 -1 0 1 1 = -1", "gate MAX 0 0 1 1 = -1", "gate 0 MAX 0 1 1 = -1",
            "gate MIN 0 0 1 1 = -1", "gate 0 MIN 0 1 1 = -1", "gate 16 0 0 1 1 = -1", "gate 0 32 0 1 1 = -1", "told 0 = 2");
        Script.run("one is the SOURCE (0 at first), another one the SINK (11 at first)",
            "told 2 = 0", "told 3 = 11", "near = 1", "far = 2048", "heights 0 0 = 12", "heights 11 0 = 0",
            "gate 0 11 0 7 1 = 0", "most = 7");
        for (int v = 0; v < 12; v++) {
            Script.run("FROM, TO (unlike NODES)",
                "gate " + v + " " + v + " 0 1 1 = -1", "gate " + v + " " + (v + 1) % 12 + " 0 1 1 = 0",
                "gate " + (v + 1) % 12 + " " + v + " 0 1 1 = 1", "of 0 0 = " + v, "of 0 1 = " + (v + 1) % 12);
        }
    }

    private static void numbersOfGates() {
        GateFlow x = new GateFlow();
        for (int g = 0; g < 30; g++) {
            Script.on(x, "GATES have numbers 0 .., as they come", "gate 0 11 0 1 1 = " + g);
        }
        Script.on(x, "30 at most", "gate 0 11 0 1 1 = -4", "told 0 = 30", "most = 30", "of 29 3 = 1", "of 30 3 = -1",
            "gate 1 2 0 5 3 = -4", "of 29 * = 0 11 0 1 1 1", "drop = 29", "gate 1 2 0 5 3 = 29", "gate 0 11 0 1 1 = -4",
            "of 29 * = 1 2 0 5 3 1", "cut 0 = 536870911", "loss 1073741823 = 29", "loss 1073741824 = -2");
        Script.run("a number is that of the place, not of how many ever came",
            "gate 0 1 0 1 1 = 0", "gate 0 1 0 2 1 = 1", "drop = 1", "gate 0 1 0 3 1 = 1", "drop = 1", "drop = 0",
            "gate 0 1 0 4 1 = 0", "of 0 3 = 4");
    }

    private static void numbersOfAGate() {
        Script.run("CAPACITY (0 .. 999)",
            "gate 0 11 0 0 1 = 0", "gate 0 11 0 999 1 = 1", "gate 0 11 0 1000 1 = -2", "gate 0 11 0 -1 1 = -2",
            "gate 0 11 0 MAX 1 = -2", "gate 0 11 0 MIN 1 = -2", "gate 0 11 MIN MIN 1 = -2", "gate 0 11 1000 1000 1 = -2",
            "gate 0 11 -1 -1 1 = -2", "told 0 = 2", "of 0 3 = 0", "of 1 3 = 999", "most = 999");
        Script.run("LEAST (0 .. CAPACITY)",
            "gate 0 11 0 5 1 = 0", "gate 0 11 5 5 1 = 1", "gate 0 11 6 5 1 = -2", "gate 0 11 -1 5 1 = -2",
            "gate 0 11 0 0 1 = 2", "gate 0 11 1 0 1 = -2", "gate 0 11 999 999 1 = 3", "gate 0 11 MAX 999 1 = -2",
            "gate 0 11 MIN 999 1 = -2", "told 0 = 4", "of 1 2 = 5", "of 3 2 = 999");
        Script.run("DELAY (1 .. 3)",
            "gate 0 11 0 1 0 = -2", "gate 0 11 0 1 1 = 0", "gate 0 11 0 1 2 = 1", "gate 0 11 0 1 3 = 2",
            "gate 0 11 0 1 4 = -2", "gate 0 11 0 1 -1 = -2", "gate 0 11 0 1 MAX = -2", "gate 0 11 0 1 MIN = -2",
            "told 0 = 3", "of 0 4 = 1", "of 1 4 = 2", "of 2 4 = 3");
        Script.run("OPEN (at first)", "gate 0 11 0 0 1 = 0", "of 0 5 = 1", "told 1 = 1", "read `0>11:1` = 1", "of 1 5 = 1");
    }

    private static void shut() {
        Script.run("One that is SHUT counts as one with CAPACITY 0 and LEAST 0",
            "gate 0 11 4 9 1 = 0", "turn 0 0 = 1", "most = 0", "water 0 = 0", "ways -1 0 = 0", "byHeights 0 = 0",
            "heights -1 0 = 0", "near = 1", "far = 2048", "cut 0 = 0", "cut 1 = 0", "wide = 0", "narrow = 0", "more 0 1 = -3",
            "loss 1 = 0", "worst * = 0 0 -5 -5", "lines -1 0 = 0", "bound * = 0 0", "apart * = 0 0", "hours 1 = 0", "hours 8 = 0",
            "two -1 0 = 1", "two 0 * = 0 11 1 0", "reach 0 20 = 1", "told * = 1 0 0 11 0 0 0 0 0 0 0",
            "list 0 1 = 1", "judge 0 0 = 100000", "set 0 0 1 = 1", "judge 0 0 = 0");
        Script.run("it has its numbers still, and counts as before when it is OPEN",
            "gate 0 11 4 9 2 = 0", "turn 0 0 = 1", "of 0 * = 0 11 4 9 2 0", "widen 0 3 = -2", "widen 0 10 = 9", "bind 0 11 = -2",
            "bind 0 10 = 4", "turn 0 1 = 0", "most = 10", "bound * = 10 10", "spell = 12", "PAPER = `0>11:10-10@2`");
        Script.run("A FLOW: ... so that at each NODE but SOURCE and SINK as much comes as goes; its VALUE: ... less what comes to it",
            "gate 0 1 0 5 1 = 0", "gate 1 0 0 5 1 = 1", "gate 11 0 0 5 1 = 2", "list 0 3 = 1", "judge 0 0 = 100000",
            "set 0 0 2 = 1", "judge 0 0 = 101", "set 0 1 2 = 1", "judge 0 0 = 100000", "set 0 2 5 = 1", "judge 0 0 = 99995");
    }

    private static void gate() {
        Script.run("gate: NONE: from, to; BAD: capacity, least, delay: the first that the words name",
            "gate 12 1 0 1000 1 = -1", "gate 0 12 5 4 1 = -1", "gate 3 3 0 1 0 = -1", "gate -1 -1 -1 -1 -1 = -1", "told 0 = 0");
        GateFlow x = full();
        Script.on(x, "NONE and BAD ahead of FULL",
            "gate 0 0 0 1 1 = -1", "gate 12 0 0 1 1 = -1", "gate 0 1 0 1000 1 = -2", "gate 0 1 2 1 1 = -2",
            "gate 0 1 0 1 0 = -2", "gate 0 1 0 1 4 = -2", "gate 0 1 0 1 1 = -4", "told 0 = 30");
    }

    private static GateFlow full() {
        GateFlow x = new GateFlow();
        for (int g = 0; g < 30; g++) {
            x.gate(0, 11, 0, 1, 1);
        }
        return x;
    }

    private static void of() {
        Script.run("of: NONE: gate, what",
            "of 0 0 = -1", "of -1 0 = -1", "gate 3 7 2 9 2 = 0", "of 0 * = 3 7 2 9 2 1 -1 -1", "of 0 -1 = -1", "of 0 10 = -1",
            "of 0 MAX = -1", "of 0 MIN = -1", "of 1 0 = -1", "of -1 0 = -1", "of 30 0 = -1", "of MAX 0 = -1", "of MIN 0 = -1",
            "turn 0 0 = 1", "of 0 5 = 0", "drop = 0", "of 0 0 = -1", "of 0 5 = -1");
    }

    private static void widenAndBind() {
        Script.run("widen: NONE; BAD: it, or it is below LEAST",
            "widen 0 1 = -1", "gate 0 11 3 10 1 = 0", "widen 0 2 = -2", "widen 0 3 = 10", "of 0 3 = 3", "widen 0 999 = 3",
            "widen 0 1000 = -2", "widen 0 -1 = -2", "widen 0 0 = -2", "widen 0 MAX = -2", "widen 0 MIN = -2", "of 0 3 = 999",
            "widen 1 5 = -1", "widen -1 5 = -1", "widen MAX MAX = -1", "widen 1 1000 = -1", "bind 0 0 = 3", "widen 0 0 = 999",
            "widen 0 -1 = -2", "of 0 3 = 0", "most = 0");
        Script.run("bind: NONE; BAD: LEAST (0 .. CAPACITY)",
            "bind 0 0 = -1", "gate 0 11 3 10 1 = 0", "bind 0 10 = 3", "bind 0 11 = -2", "bind 0 -1 = -2", "bind 0 MAX = -2",
            "bind 0 MIN = -2", "of 0 2 = 10", "bound 1 = 10", "bind 0 0 = 10", "bound 1 = 0", "bind 1 0 = -1", "bind -1 0 = -1",
            "bind MIN MIN = -1", "bind 1 -1 = -1", "of 0 2 = 0");
    }

    private static void turn() {
        Script.run("turn: NONE: gate, open",
            "turn 0 0 = -1", "gate 0 11 0 10 1 = 0", "turn 0 1 = 1", "turn 0 0 = 1", "turn 0 0 = 0", "turn 0 2 = -1",
            "turn 0 -1 = -1", "turn 0 MAX = -1", "turn 0 MIN = -1", "of 0 5 = 0", "turn 0 1 = 0", "turn 1 0 = -1", "turn -1 0 = -1",
            "turn 0 2 = -1", "of 0 5 = 1", "told 1 = 1", "most = 10");
    }

    private static void drop() {
        Script.run("drop: STATE: there is none",
            "drop = -3", "gate 0 11 0 10 1 = 0", "gate 0 11 0 5 1 = 1", "most = 15", "drop = 1", "most = 10", "drop = 0",
            "drop = -3", "drop = -3", "told 0 = 0", "most = 0", "gate 0 11 0 4 1 = 0", "most = 4");
        Script.run("The last GATE is gone: its bit is none",
            "gate 0 11 0 10 1 = 0", "gate 0 11 0 5 1 = 1", "loss 2 = 5", "drop = 1", "loss 2 = -2", "loss 1 = 10", "cut 0 = 1",
            "wide = 1", "narrow = 1", "pick `from=0` = 1", "water 1 = -1", "byHeights 1 = -1", "more 1 1 = -1");
    }

    private static void ends() {
        Script.run("ends: NONE: either (one twice, too)",
            "ends 0 0 = -1", "ends 11 11 = -1", "ends 5 5 = -1", "ends -1 0 = -1", "ends 0 -1 = -1", "ends 12 0 = -1",
            "ends 0 12 = -1", "ends MAX 0 = -1", "ends 0 MIN = -1", "told 2 = 0", "told 3 = 11", "ends 11 0 = 1", "told 2 = 11",
            "told 3 = 0", "ends 11 0 = 1", "ends 0 11 = 1", "ends 0 1 = 1", "ends 1 1 = -1", "told 3 = 1");
        Script.run("what is worked out follows the ends",
            "gate 1 2 0 6 1 = 0", "most = 0", "heights -1 0 = 0", "hours 1 = 0", "apart 0 = 0", "bound 0 = 0", "lines -1 0 = 0",
            "worst 1 = 0", "ends 1 2 = 1", "most = 6", "heights -1 0 = 1", "hours 1 = 6", "apart 0 = 1", "bound 0 = 6",
            "lines -1 0 = 1", "worst 1 = 6", "near = 2", "far = 4", "told 4 = 6", "told 5 = 6", "ends 2 1 = 1", "most = 0",
            "told 4 = 0", "told 5 = 0");
    }

    private static void two() {
        Script.run("two: unlike twos (by their first GATES); how many (i -1); NONE: i, what",
            "two -1 0 = 0", "two 0 0 = -1", "gate 3 4 0 5 1 = 0", "gate 4 3 0 6 1 = 1", "gate 3 4 0 7 2 = 2", "two -1 0 = 2",
            "two 0 * = 3 4 2 12 -1 -1", "two 1 * = 4 3 1 6 -1", "two 0 -1 = -1", "two 0 MAX = -1", "two 0 MIN = -1",
            "two 2 0 = -1", "two 2 2 = -1", "two -2 0 = -1", "two MAX 0 = -1", "two MIN 0 = -1", "turn 0 0 = 1",
            "two 0 * = 3 4 2 7", "turn 2 0 = 1", "two 0 * = 3 4 2 0", "drop = 2", "two 0 2 = 1", "drop = 1", "two -1 0 = 1",
            "two 1 0 = -1", "drop = 0", "two -1 0 = 0", "two 0 0 = -1");
        GateFlow x = new GateFlow();
        for (int g = 0; g < 30; g++) {
            x.gate(g % 11, (g + 1 + g / 11) % 11, 0, g, 1);
        }
        Script.on(x, "thirty gates, thirty twos", "two -1 0 = 30", "two 0 * = 0 1 1 0", "two 29 * = 7 10 1 29", "two 30 0 = -1");
        Script.on(full(), "thirty gates, one two", "two -1 0 = 1", "two 0 * = 0 11 30 30", "two 1 0 = -1");
    }

    private static void image() {
        Script.run("undo: STATE: there is none",
            "undo = -3", "gate 0 11 0 1 1 = 0", "undo = -3", "told 0 = 1", "image = 1", "undo = 1", "undo = 1");
        Script.run("an IMAGE of no gates is one",
            "image = 0", "gate 0 11 0 4 1 = 0", "most = 4", "undo = 0", "told 0 = 0", "most = 0", "drop = -3", "undo = 0");
        Script.run("THE IMAGE: all: gates with all that is theirs, SOURCE and SINK",
            "gate 3 4 2 9 2 = 0", "gate 4 5 0 8 1 = 1", "turn 1 0 = 1", "ends 3 5 = 1", "image = 2", "drop = 1", "drop = 0",
            "gate 6 7 1 1 3 = 0", "ends 7 6 = 1", "undo = 2", "of 0 * = 3 4 2 9 2 1", "of 1 * = 4 5 0 8 1 0", "told 2 = 3",
            "told 3 = 5", "turn 1 1 = 0", "most = 8", "bound 1 = 2", "undo = 2", "most = 0", "of 1 5 = 0");
        Script.run("but THE TAPE, THE PAPER, LISTS",
            "gate 0 11 0 5 1 = 0", "image = 1", "feed 99 = 1", "feed 97 = 2", "spell = 6", "list 2 2 = 1", "set 2 1 7 = 1",
            "undo = 1", "told 6 = 2", "told 7 = 6", "get 2 1 = 7", "list 2 -1 = -14", "get 2 1 = 7", "feed 112 = 3",
            "feed 62 = 4", "feed 52 = 5", "pick = 1", "undo = 1", "told 6 = 0", "PAPER = `0>11:5`");
        Script.on(full(), "an IMAGE of 30",
            "image = 30", "drop = 29", "drop = 28", "undo = 30", "most = 30", "gate 0 1 0 1 1 = -4", "of 29 3 = 1");
        Script.run("the latest IMAGE holds",
            "gate 0 11 0 5 1 = 0", "image = 1", "gate 0 11 0 6 1 = 1", "image = 2", "drop = 1", "drop = 0", "undo = 2", "most = 11");
        Script.run("THE IMAGE isn't what became of the gates since",
            "gate 0 11 0 5 1 = 0", "image = 1", "widen 0 8 = 5", "bind 0 2 = 0", "turn 0 0 = 1", "undo = 1", "of 0 * = 0 11 0 5 1 1",
            "widen 0 7 = 5", "undo = 1", "of 0 3 = 5");
    }

    private static void calls() {
        GateFlow x = new GateFlow();
        x.gate(0, 11, 0, 7, 1);
        for (int n = 1; n < 511; n++) {
            Check.due("call " + n, n % 2 == 1 ? x.turn(0, 0) : x.turn(0, 1), n % 2);
        }
        Check.due("An object is used for at most 512 calls: the last is as the first", x.most(), 7);
    }
}
