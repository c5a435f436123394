/** The sentences of the document that name a boundary: bounds, ways apart, hours, reach; promises 23 to 25, 27. */
final class PlanEdgesTest {
    public static void main(String[] args) {
        bound();
        apart();
        hours();
        reach();
        Check.end("PlanEdgesTest");
    }

    private static void bound() {
        Script.run("bound: NONE", "bound * = 0 0 -1 -1", "bound -1 = -1", "bound MAX = -1", "bound MIN = -1");
        Script.run("BOUND: if no number is below LEAST: LEAST itself is enough, CAPACITY is the most",
            "gate 0 11 5 5 1 = 0", "bound * = 5 5", "widen 0 6 = 5", "bound * = 6 5", "bind 0 6 = 5", "bound * = 6 6",
            "bind 0 0 = 6", "bound * = 6 0", "widen 0 0 = 6", "bound * = 0 0", "most = 0");
        Script.run("there may be none: what must come can't go on, what must go on can't come",
            "gate 0 1 3 9 1 = 0", "bound * = -5 -5", "gate 1 11 0 2 1 = 1", "bound * = -5 -5", "widen 1 3 = 2", "bound * = 3 3",
            "widen 1 4 = 3", "bound * = 4 3", "bind 1 4 = 0", "bound * = 4 4", "widen 0 3 = 9", "bound * = -5 -5", "turn 0 0 = 1",
            "bound * = -5 -5", "turn 1 0 = 1", "bound * = 0 0", "most = 0");
        Script.run("VALUE (0 or above alone): what must come back is made up for, or there is none",
            "gate 11 0 4 9 1 = 0", "bound * = -5 -5", "gate 0 11 0 3 1 = 1", "bound * = -5 -5", "widen 1 4 = 3", "bound * = 0 0",
            "widen 1 5 = 4", "bound * = 1 0", "bind 1 5 = 0", "bound * = 1 0", "widen 0 4 = 9", "bound * = 1 1", "bind 0 0 = 4",
            "bound * = 5 1", "turn 0 0 = 1", "bound * = 5 5", "turn 1 0 = 1", "bound * = 0 0");
        Script.run("water may go in a ring beside the ends; LEAST there must be met, too",
            "gate 3 4 2 5 1 = 0", "bound * = -5 -5", "gate 4 3 0 1 1 = 1", "bound * = -5 -5", "widen 1 2 = 1", "bound * = 0 0",
            "gate 0 11 0 7 1 = 2", "bound * = 7 0", "ends 3 4 = 1", "bound * = 5 0", "bind 1 1 = 0", "bound * = 4 0");
        GateFlow x = new GateFlow();
        for (int g = 0; g < 30; g++) {
            x.gate(0, 11, 999, 999, 1);
        }
        Script.on(x, "30 of 999", "bound * = 29970 29970", "drop = 29", "gate 11 0 999 999 1 = 29", "bound * = 27972 27972");
    }

    private static void apart() {
        Script.run("apart: NONE", "apart * = 0 0 -1 -1", "apart -1 = -1", "apart MAX = -1", "apart MIN = -1");
        Script.run("by OPEN GATES with CAPACITY above 0",
            "gate 0 11 0 0 1 = 0", "apart * = 0 0", "widen 0 1 = 0", "apart * = 1 1", "widen 0 999 = 1", "apart * = 1 1",
            "turn 0 0 = 1", "apart * = 0 0");
        Script.run("forward: steps backward are none",
            "gate 1 0 0 5 1 = 0", "gate 11 1 0 5 1 = 1", "apart * = 0 0", "gate 0 1 0 5 1 = 2", "apart * = 0 0", "gate 1 11 0 5 1 = 3",
            "apart * = 1 1");
        Script.run("a GATE (kind 0), a NODE but SOURCE and SINK (kind 1) in common",
            "gate 0 1 0 1 1 = 0", "gate 0 1 0 1 1 = 1", "gate 1 11 0 9 1 = 2", "apart * = 1 1", "gate 1 11 0 9 1 = 3", "apart * = 2 1",
            "gate 0 2 0 9 1 = 4", "gate 2 1 0 9 1 = 5", "gate 1 11 0 9 1 = 6", "apart * = 3 1", "gate 2 11 0 9 1 = 7", "apart * = 3 2",
            "ends 1 11 = 1", "apart * = 3 3", "ends 0 1 = 1", "apart * = 3 3");
        Script.run("GATES straight from the one to the other are a way each, by kind 1, too",
            "gate 0 11 0 1 1 = 0", "gate 0 11 0 1 1 = 1", "apart * = 2 2", "gate 0 1 0 1 1 = 2", "gate 1 11 0 1 1 = 3", "apart * = 3 3",
            "gate 0 11 0 0 1 = 4", "apart * = 3 3", "turn 0 0 = 1", "apart * = 2 2");
    }

    private static void hours() {
        Script.run("hours (1 .. 8): BAD",
            "hours 0 = -2", "hours 9 = -2", "hours -1 = -2", "hours MAX = -2", "hours MIN = -2", "hours 1* = 0 0 0 0 0 0 0 0 -2",
            "gate 0 11 0 3 1 = 0", "hours 1* = 3 6 9 12 15 18 21 24 -2", "hours 0 = -2", "hours -8 = -2");
        Script.run("has it at its TO DELAY hours later: at the end of the last hour is in time",
            "gate 0 11 0 5 1 = 0", "hours 1* = 5 10 15", "drop = 0", "gate 0 11 0 5 2 = 0", "hours 1* = 0 5 10", "drop = 0",
            "gate 0 11 0 5 3 = 0", "hours 1* = 0 0 5 10 15 20 25 30", "turn 0 0 = 1", "hours 8 = 0", "turn 0 1 = 0", "widen 0 0 = 5",
            "hours 8 = 0");
        Script.run("up to CAPACITY in each hour; water may wait at NODES",
            "gate 0 1 0 8 1 = 0", "gate 1 11 0 1 1 = 1", "hours 1* = 0 1 2 3 4 5 6 7", "widen 0 1 = 8", "widen 1 8 = 1",
            "hours 1* = 0 1 2 3 4 5 6 7", "gate 1 11 0 2 3 = 2", "hours 8 = 7", "widen 0 9 = 1", "hours 1* = 0 8 16 25");
        Script.run("the longest way that is in time: eight gates of one hour",
            "gate 0 1 0 5 1 = 0", "gate 1 2 0 5 1 = 1", "gate 2 3 0 5 1 = 2", "gate 3 4 0 5 1 = 3", "gate 4 5 0 5 1 = 4",
            "gate 5 6 0 5 1 = 5", "gate 6 7 0 5 1 = 6", "gate 7 11 0 5 1 = 7", "hours 7 = 0", "hours 8 = 5", "drop = 7",
            "gate 7 8 0 5 1 = 7", "gate 8 11 0 5 1 = 8", "hours 8 = 0", "most = 5");
        Script.run("what is at the SINK when they are over: it need not leave again; the SOURCE needs none back",
            "gate 11 0 0 9 1 = 0", "gate 11 1 0 9 1 = 1", "gate 1 0 0 9 1 = 2", "gate 0 1 0 4 1 = 3", "gate 1 11 0 4 1 = 4",
            "hours 1* = 0 4 8 12", "bind 0 9 = 0", "hours 3 = 8");
    }

    private static void reach() {
        Script.run("reach: hours (0 .. 20). NONE; BAD",
            "reach 12 0 = -1", "reach -1 0 = -1", "reach MAX 0 = -1", "reach MIN 0 = -1", "reach 0 21 = -2", "reach 0 -1 = -2",
            "reach 0 MAX = -2", "reach 0 MIN = -2", "reach 12 21 = -1", "reach -1 -1 = -1", "reach 0 0 = 1", "reach 11 0 = 2048",
            "reach 0 20 = 1", "reach 11 20 = 2048", "gate 0 11 0 1 1 = 0", "reach 0 0* = 1 2049 2049", "reach 0 21 = -2", "reach 11 20 = 2048");
        Script.run("in so many hours or fewer: DELAY hours are just enough",
            "gate 0 1 0 1 3 = 0", "gate 1 2 0 1 2 = 1", "gate 2 3 0 1 1 = 2", "reach 0 0* = 1 1 1 3 3 7 15 15",
            "reach 1 0* = 2 2 6 14", "reach 3 20 = 8");
        Script.run("by OPEN GATES with CAPACITY above 0",
            "gate 0 1 0 0 1 = 0", "reach 0 20 = 1", "widen 0 1 = 0", "reach 0 20 = 3", "turn 0 0 = 1", "reach 0 20 = 1",
            "turn 0 1 = 0", "reach 1 20 = 2", "ends 1 0 = 1", "reach 0 20 = 3");
        // Ten gates of 2 hours each are 20: the last one is just in time; one hour more anywhere is too much.
        GateFlow x = new GateFlow();
        for (int v = 0; v < 10; v++) {
            x.gate(v, v + 1, 0, 1, 2);
        }
        Script.on(x, "20 hours are just enough for ten gates of 2", "reach 0 20 = 2047", "reach 0 19 = 1023", "gate 10 11 0 1 1 = 10",
            "reach 0 20 = 2047", "reach 1 19 = 4094", "reach 1 18 = 2046", "gate 0 1 0 1 1 = 11", "reach 0 20 = 4095",
            "gate 11 0 0 1 3 = 12", "reach 5 13* = 4064 4065 4067 4067 4071");
        GateFlow y = new GateFlow();
        for (int g = 0; g < 30; g++) {
            y.gate(g % 11, g % 11 + 1, 0, 999, 3);
        }
        Script.on(y, "six of 3 hours in 20", "reach 0 17 = 63", "reach 0 18 = 127", "reach 0 20 = 127", "reach 10 20 = 3072");
    }
}
