/** The sentences of the document that name a boundary: lists, what is laid into them, how they are judged; promises 37 to 41. */
final class ListEdgesTest {
    private static final String NO = "-2000000000";

    public static void main(String[] args) {
        list();
        set();
        get();
        lay();
        judgeAnswers();
        judge();
        Check.end("ListEdgesTest");
    }

    private static void list() {
        for (int l = 0; l < 4; l++) {
            Script.run("LISTS 0 .. 3 hold nothing (at first)", "set " + l + " 0 1 = -11", "lay " + l + " 0 0 = -11", "judge " + l + " 0 = -11",
                "get " + l + " 0 = " + NO, "list " + l + " 1 = 1", "get " + l + " 0* = 0 " + NO, "set " + l + " 0 5 = 1", "get " + l + " 0 = 5");
        }
        Script.run("a row of 0 .. 40 ints; list: NONE: list; BAD: n above 40; BELOW",
            "list 0 0 = 1", "list 0 1 = 1", "list 0 40 = 1", "list 0 41 = -2", "list 0 -1 = -14", "list 0 MAX = -2", "list 0 MIN = -14",
            "list 4 0 = -1", "list -1 0 = -1", "list MAX 1 = -1", "list MIN 1 = -1", "list 4 41 = -1", "list -1 -1 = -1", "list 3 40 = 1");
        Script.run("what is answered so changes nothing", "list 0 41 = -2", "set 0 0 1 = -11", "list 0 -1 = -14", "set 0 0 1 = -11", "list 0 2 = 1",
            "set 0 1 9 = 1", "list 0 41 = -2", "list 0 -1 = -14", "get 0 0* = 0 9 " + NO);
        Script.run("A LIST becomes a row of n ints, all 0", "list 0 40 = 1", "set 0 0 5 = 1", "set 0 39 6 = 1", "list 0 40 = 1", "get 0 0 = 0",
            "get 0 39* = 0 " + NO, "set 0 0 7 = 1", "set 0 1 8 = 1", "list 0 1 = 1", "get 0 0* = 0 " + NO, "list 0 2 = 1", "get 0 0* = 0 0 " + NO);
        Script.run("a row of none is one", "list 0 0 = 1", "get 0 0 = " + NO, "set 0 0 1 = -13", "lay 0 0 0 = 0", "judge 0 0 = 100000",
            "list 0 3 = 1", "list 0 0 = 1", "set 0 0 1 = -13", "get 0 0 = " + NO);
        Script.run("each LIST is of its own", "list 0 40 = 1", "list 1 40 = 1", "list 2 40 = 1", "list 3 40 = 1", "set 0 39 1 = 1", "set 1 0 2 = 1",
            "set 1 39 3 = 1", "set 2 0 4 = 1", "set 2 39 5 = 1", "set 3 0 6 = 1", "get 0 0 = 0", "get 0 39 = 1", "get 1 0 = 2", "get 1 39 = 3",
            "get 2 0 = 4", "get 2 39 = 5", "get 3 0 = 6", "get 3 39 = 0", "list 1 2 = 1", "get 0 39 = 1", "get 2 0 = 4");
    }

    private static void set() {
        Script.run("set: NONE; NOTHING; BEYOND", "set 4 0 1 = -1", "set -1 0 1 = -1", "set MAX 0 1 = -1", "set MIN 0 1 = -1", "set 4 -1 1 = -1",
            "set 3 0 1 = -11", "set 3 -1 1 = -11", "set 3 40 1 = -11", "list 3 3 = 1", "set 3 -1 1 = -13", "set 3 3 1 = -13", "set 3 MAX 1 = -13",
            "set 3 MIN 1 = -13", "set 3 39 1 = -13", "set 3 40 1 = -13", "get 3 0* = 0 0 0 " + NO, "set 3 0 1 = 1", "set 3 2 3 = 1",
            "get 3 0* = 1 0 3 " + NO);
        Script.run("Place i becomes v, whatever v is", "list 0 4 = 1", "set 0 0 MAX = 1", "set 0 1 MIN = 1", "set 0 2 -1 = 1", "set 0 3 -2000000000 = 1",
            "get 0 0* = MAX MIN -1 -2000000000 " + NO);
    }

    private static void get() {
        Script.run("get: -2000000000: no such LIST, nothing there, no such place", "get 4 0 = " + NO, "get -1 0 = " + NO, "get MAX 0 = " + NO,
            "get MIN 0 = " + NO, "get 0 0 = " + NO, "get 0 -1 = " + NO, "list 0 2 = 1", "get 0 -1 = " + NO, "get 0 0* = 0 0 " + NO,
            "get 0 40 = " + NO, "get 0 MAX = " + NO, "get 0 MIN = " + NO, "get 1 0 = " + NO, "list 3 40 = 1", "get 3 39* = 0 " + NO, "get 2 39 = " + NO);
    }

    /** 5 of 9 come through; 1>2 leads nowhere. */
    private static final String[] NET = {"gate 0 1 0 9 1 = 0", "gate 1 2 0 2 1 = 1", "gate 1 11 0 5 1 = 2"};

    private static GateFlow net() {
        return Script.run("a net of three", NET);
    }

    private static void lay() {
        Script.on(net(), "lay: NONE: list, way; NOTHING", "lay 4 0 0 = -1", "lay -1 0 0 = -1", "lay MAX 0 0 = -1", "lay MIN 0 0 = -1", "lay 0 0 2 = -1",
            "lay 0 0 -1 = -1", "lay 0 0 MAX = -1", "lay 0 0 MIN = -1", "lay 0 0 0 = -11", "lay 0 0 1 = -11", "lay 0 -1 0 = -11", "lay 0 MAX 1 = -11",
            "list 0 3 = 1", "lay 0 0 2 = -1", "lay 0 -1 2 = -1", "lay 0 0 -1 = -1", "get 0 0* = 0 0 0", "lay 0 0 0 = 3", "get 0 0* = 5 0 5");
        Script.on(net(), "LAID from a place on: numbers BY WAYS (way 0) or BY HEIGHTS (way 1)", "list 0 5 = 1", "lay 0 1 0 = 3", "get 0 0* = 0 5 0 5 0",
            "lay 0 2 1 = 3", "get 0 0* = 0 5 5 0 5", "list 0 3 = 1", "lay 0 0 1 = 3", "get 0 0* = 5 0 5");
        Script.run("the two may be others", "gate 1 2 0 3 1 = 0", "gate 0 1 0 5 1 = 1", "gate 1 11 0 5 1 = 2", "gate 2 11 0 3 1 = 3", "list 0 4 = 1",
            "lay 0 0 0 = 4", "get 0 0* = 0 5 5 0", "list 0 4 = 1", "lay 0 0 1 = 4", "get 0 0* = 3 5 2 3", "widen 2 3 = 5", "lay 0 0 0 = 4", "get 0 0* = 2 5 3 2");
        Script.on(net(), "BEYOND: not all were (those that had a place are there all the same)", "list 0 2 = 1", "lay 0 0 0 = -13", "get 0 0* = 5 0 " + NO,
            "list 0 3 = 1", "lay 0 1 0 = -13", "get 0 0* = 0 5 0", "list 0 3 = 1", "lay 0 2 0 = -13", "get 0 0* = 0 0 5", "list 0 3 = 1",
            "lay 0 3 0 = -13", "get 0 0* = 0 0 0", "lay 0 40 0 = -13", "lay 0 MAX 0 = -13", "lay 0 2147483646 1 = -13", "lay 0 2147483645 1 = -13",
            "get 0 0* = 0 0 0", "list 0 0 = 1", "lay 0 0 0 = -13", "list 0 40 = 1", "lay 0 37 0 = 3", "get 0 37* = 5 0 5 " + NO,
            "lay 0 38 0 = -13", "get 0 37* = 5 5 0");
        Script.on(net(), "(none, if i is below 0)", "list 0 5 = 1", "lay 0 -1 0 = -13", "lay 0 -2 0 = -13", "lay 0 -3 1 = -13", "lay 0 MIN 0 = -13",
            "lay 0 -40 0 = -13", "get 0 0* = 0 0 0 0 0", "list 1 40 = 1", "lay 1 -1 0 = -13", "get 0 0* = 0 0 0 0 0", "get 1 0* = 0 0 0");
        Script.run("without gates all were: none", "list 0 2 = 1", "lay 0 0 0 = 0", "lay 0 2 1 = 0", "get 0 0* = 0 0");
        GateFlow x = new GateFlow();
        for (int g = 0; g < 30; g++) {
            x.gate(0, 11, 0, g + 1, 1);
        }
        Script.on(x, "30 into 40", "list 0 40 = 1", "lay 0 10 0 = 30", "get 0 9* = 0 1 2", "get 0 39 = 30", "judge 0 10 = 100465", "judge 0 11 = -5",
            "judge 0 9 = 100435", "lay 0 11 1 = -13", "get 0 39 = 29", "judge 0 10 = 100436", "list 1 30 = 1", "lay 1 0 1 = 30", "judge 1 0 = 100465",
            "judge 1 1 = -5");
    }

    private static void judgeAnswers() {
        Script.on(net(), "judge: NONE; NOTHING; BEYOND: i is below 0", "judge 4 0 = -1", "judge -1 0 = -1", "judge MAX 0 = -1", "judge MIN 0 = -1",
            "judge 4 -1 = -1", "judge 0 0 = -11", "judge 0 -1 = -11", "list 0 3 = 1", "judge 0 -1 = -13", "judge 0 MIN = -13", "judge 0 -3 = -13",
            "judge 0 0 = 100000");
        Script.on(net(), "-5, if it ends ahead of the last GATE", "list 0 2 = 1", "judge 0 0 = -5", "list 0 3 = 1", "judge 0 0 = 100000", "judge 0 1 = -5",
            "judge 0 3 = -5", "judge 0 4 = -5", "judge 0 40 = -5", "judge 0 MAX = -5", "judge 0 2147483645 = -5", "list 0 0 = 1", "judge 0 0 = -5",
            "list 0 40 = 1", "judge 0 37 = 100000", "judge 0 38 = -5", "set 0 39 -1 = 1", "judge 0 38 = -5", "judge 0 37 = 2");
        Script.run("without gates no one ends it", "list 0 2 = 1", "judge 0 0 = 100000", "judge 0 2 = 100000", "judge 0 3 = 100000", "judge 0 MAX = 100000",
            "judge 0 -1 = -13", "list 0 0 = 1", "judge 0 0 = 100000", "judge 0 1 = 100000");
    }

    private static void judge() {
        Script.on(net(), "the first GATE whose number there is below 0 or above its CAPACITY", "list 0 3 = 1", "set 0 0 9 = 1", "judge 0 0 = 101",
            "set 0 0 10 = 1", "judge 0 0 = 0", "set 0 0 -1 = 1", "judge 0 0 = 0", "set 0 0 MAX = 1", "judge 0 0 = 0", "set 0 0 MIN = 1", "judge 0 0 = 0",
            "set 0 2 6 = 1", "judge 0 0 = 0", "set 0 0 0 = 1", "judge 0 0 = 2", "set 0 1 3 = 1", "judge 0 0 = 1", "set 0 1 2 = 1", "judge 0 0 = 2",
            "set 0 2 5 = 1", "judge 0 0 = 101");
        Script.on(net(), "(above 0, if it is SHUT)", "list 0 3 = 1", "set 0 0 1 = 1", "set 0 2 1 = 1", "judge 0 0 = 100001", "turn 2 0 = 1",
            "judge 0 0 = 2", "set 0 2 0 = 1", "judge 0 0 = 101", "set 0 2 -1 = 1", "judge 0 0 = 2", "set 0 2 0 = 1", "set 0 0 0 = 1",
            "judge 0 0 = 100000");
        Script.on(net(), "100 and the first NODE but SOURCE and SINK at which not as much comes as goes", "list 0 3 = 1", "set 0 0 5 = 1", "judge 0 0 = 101",
            "set 0 2 5 = 1", "judge 0 0 = 100005", "set 0 1 1 = 1", "judge 0 0 = 101", "set 0 0 6 = 1", "judge 0 0 = 102", "ends 0 2 = 1",
            "judge 0 0 = 111", "ends 1 2 = 1", "judge 0 0 = 100", "ends 0 1 = 1", "judge 0 0 = 102", "ends 2 11 = 1", "judge 0 0 = 100");
        Script.run("100000 and the VALUE (less, if that is below 0)", "gate 0 11 0 9 1 = 0", "gate 11 0 0 9 1 = 1", "list 0 2 = 1", "judge 0 0 = 100000",
            "set 0 0 9 = 1", "judge 0 0 = 100009", "set 0 1 9 = 1", "judge 0 0 = 100000", "set 0 0 8 = 1", "judge 0 0 = 99999", "set 0 0 0 = 1",
            "judge 0 0 = 99991", "ends 11 0 = 1", "judge 0 0 = 100009");
        Script.run("LEAST isn't asked for", "gate 0 11 5 9 1 = 0", "list 0 1 = 1", "judge 0 0 = 100000", "set 0 0 4 = 1", "judge 0 0 = 100004");
        Script.on(net(), "from a place on: what is ahead of it, and behind the last, isn't asked for", "list 0 6 = 1", "set 0 0 -1 = 1", "set 0 5 -1 = 1",
            "judge 0 1 = 100000", "judge 0 2 = 100000", "judge 0 0 = 0", "judge 0 3 = 2", "set 0 2 3 = 1", "judge 0 1 = 1", "judge 0 2 = 101");
    }
}
