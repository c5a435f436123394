/** The sentences of the document that name a boundary: flows, cuts, losses, lines; promises 9 to 22. */
final class FlowEdgesTest {
    public static void main(String[] args) {
        noWater();
        fewestSteps();
        orderOfSteps();
        amounts();
        ways();
        heightsAtFirst();
        served();
        lifted();
        roomByHeights();
        heightsAsked();
        nearAndFar();
        cuts();
        wideAndNarrow();
        more();
        loss();
        worst();
        wayBack();
        othersSteps();
        manyWays();
        lines();
        Check.end("FlowEdgesTest");
    }

    private static void noWater() {
        Script.run("at first all numbers are 0; until there is no WAY: none at all",
            "most = 0", "water 0 = -1", "ways -1 0 = 0", "gate 0 11 0 0 1 = 0", "most = 0", "water 0 = 0", "byHeights 0 = 0",
            "ways -1 0 = 0", "ways 0 0 = -1", "gate 0 1 0 9 1 = 1", "gate 2 11 0 9 1 = 2", "most = 0", "water * = 0 0 0 -1",
            "gate 1 2 0 0 1 = 3", "most = 0", "widen 3 1 = 0", "most = 1", "water * = 0 1 1 1 -1", "ways -1 0 = 1");
        Script.run("gates to the SOURCE and from the SINK bring nothing",
            "gate 1 0 0 9 1 = 0", "gate 11 1 0 9 1 = 1", "gate 11 0 0 9 1 = 2", "most = 0", "ways -1 0 = 0", "heights -1 0 = 0",
            "gate 0 1 0 4 1 = 3", "gate 1 11 0 4 1 = 4", "most = 4", "water * = 0 0 0 4 4", "byHeights * = 0 0 0 4 4", "ways -1 0 = 1");
        Script.run("water: NONE", "water -1 = -1", "water 0 = -1", "gate 0 11 0 3 1 = 0", "water * = 3 -1", "water -1 = -1",
            "water 30 = -1", "water MAX = -1", "water MIN = -1", "drop = 0", "water 0 = -1");
        GateFlow x = new GateFlow();
        for (int g = 0; g < 30; g++) {
            x.gate(0, 11, 0, 999, 1);
        }
        Script.on(x, "the most that there can be", "most = 29970", "told 4 = 29970", "told 5 = 29970", "ways -1 0 = 30",
            "heights -1 0 = 30", "lines -1 0 = 30", "hours 8 = 239760", "bound 0 = 29970", "two 0 3 = 29970", "told 8 = 30",
            "ways 29 0 = 999", "ways 29 10 = 29", "water 29 = 999", "apart 1 = 30", "loss 1073741823 = 29970");
    }

    private static void fewestSteps() {
        Script.run("as few as can be: one step ahead of two, two ahead of three, whatever the numbers are",
            "gate 0 1 0 5 1 = 0", "gate 1 2 0 5 1 = 1", "gate 2 11 0 9 1 = 2", "gate 0 2 0 3 1 = 3", "gate 0 11 0 2 1 = 4",
            "most = 10", "ways -1 0 = 3", "ways 0 * = 2 1 -1", "ways 0 10* = 4 -1", "ways 1 * = 3 2 -1", "ways 1 10* = 3 2 -1",
            "ways 2 * = 5 3 -1", "ways 2 10* = 0 1 2 -1");
        GateFlow x = new GateFlow();
        for (int v = 0; v < 11; v++) {
            x.gate(v, v + 1, 0, 5, 1);
        }
        Script.on(x, "a WAY of 11 STEPS is the longest",
            "most = 5", "ways -1 0 = 1", "ways 0 * = 5 11 -1", "ways 0 10* = 0 1 2 3 4 5 6 7 8 9 10 -1 -1", "lines 0 * = 5 11 0 -1",
            "lines 0 10* = 0 1 2 3 4 5 6 7 8 9 10 -1", "near = 1", "far = 2048", "cut 0 = 1", "cut 1 = 1024", "narrow = 2047", "wide = 0");
    }

    private static void orderOfSteps() {
        Script.run("the one whose first STEP is earlier in the order of its NODE, then whose second is, and so on",
            "gate 3 11 0 1 1 = 0", "gate 2 11 0 2 1 = 1", "gate 1 3 0 1 1 = 2", "gate 1 2 0 1 1 = 3", "gate 0 4 0 9 1 = 4",
            "gate 0 1 0 9 1 = 5", "gate 4 2 0 1 1 = 6", "gate 4 2 0 1 1 = 7", "gate 2 11 0 9 1 = 8",
            "ways -1 0 = 4", "ways 0 10* = 4 6 1 -1", "ways 1 10* = 4 7 1 -1", "ways 2 10* = 5 2 0 -1", "ways 3 10* = 5 3 8 -1");
        // At 2, on by 9 (2>5) and back by 0 (1>2) are as short: forward ones come first, whatever the number is.
        Script.run("forward ones by numbers, then backward ones by numbers",
            "gate 1 2 0 2 1 = 0", "gate 0 1 0 2 1 = 1", "gate 2 11 0 2 1 = 2", "gate 0 3 0 2 1 = 3", "gate 3 2 0 2 1 = 4",
            "gate 1 4 0 2 1 = 5", "gate 4 11 0 2 1 = 6", "gate 6 11 0 1 1 = 7", "gate 5 6 0 1 1 = 8", "gate 2 5 0 1 1 = 9",
            "ways -1 0 = 3", "ways 0 * = 2 3", "ways 0 10* = 1 0 2 -1", "ways 1 * = 1 5", "ways 1 10* = 3 4 9 8 7 -1",
            "ways 2 * = 1 5", "ways 2 10* = 3 4 100 5 6 -1", "water * = 1 2 2 2 2 1 1 1 1 1", "most = 4");
        // At 2, back by 0 (4>2) and by 1 (1>2) are as short.
        Script.run("backward ones by numbers, not by nodes",
            "gate 4 2 0 1 1 = 0", "gate 1 2 0 1 1 = 1", "gate 0 1 0 1 1 = 2", "gate 0 4 0 1 1 = 3", "gate 2 11 0 2 1 = 4",
            "gate 0 3 0 2 1 = 5", "gate 3 2 0 2 1 = 6", "gate 1 5 0 1 1 = 7", "gate 5 11 0 1 1 = 8", "gate 4 6 0 1 1 = 9",
            "gate 6 11 0 1 1 = 10", "ways -1 0 = 4", "ways 0 10* = 2 1 4 -1", "ways 1 10* = 3 0 4 -1", "ways 2 10* = 5 6 100 9 10 -1",
            "ways 3 10* = 5 6 101 7 8 -1", "water * = 0 0 1 1 2 2 2 1 1 1 1");
    }

    private static void amounts() {
        Script.run("Its AMOUNT is the least ROOM of its STEPS: the first, one between, the last",
            "gate 0 1 0 2 1 = 0", "gate 1 2 0 7 1 = 1", "gate 2 11 0 8 1 = 2", "ways 0 0 = 2", "widen 0 9 = 2", "ways 0 0 = 7",
            "widen 1 9 = 7", "ways 0 0 = 8", "widen 2 1 = 8", "ways 0 0 = 1", "water * = 1 1 1");
        // 1>2 gives back all of its 3, which is the least room of the second way.
        Script.run("a backward one's room is its number; each backward one's is less",
            "gate 0 1 0 3 1 = 0", "gate 1 2 0 9 1 = 1", "gate 2 11 0 3 1 = 2", "gate 0 3 0 9 1 = 3", "gate 3 2 0 9 1 = 4",
            "gate 1 4 0 9 1 = 5", "gate 4 5 0 9 1 = 6", "gate 5 11 0 9 1 = 7", "ways -1 0 = 2", "ways 0 * = 3 3",
            "ways 1 * = 3 6", "ways 1 10* = 3 4 101 5 6 7 -1", "water * = 3 0 3 3 3 3 3 3", "most = 6");
        Script.run("forward there is room up to CAPACITY: one of 1 lets 1 through, once",
            "gate 0 11 0 1 1 = 0", "most = 1", "ways -1 0 = 1", "ways 0 0 = 1", "ways 1 0 = -1", "near = 1", "far = 2048");
    }

    private static void ways() {
        Script.run("ways: how many WAYS (i -1). NONE: i, what",
            "ways 0 0 = -1", "ways -1 0 = 0", "gate 0 1 0 6 1 = 0", "gate 1 11 0 4 1 = 1", "ways -1 0 = 1", "ways 0 * = 4 2 -1 -1",
            "ways 0 8* = -1 -1 0 1 -1", "ways 0 -1 = -1", "ways 0 MAX = -1", "ways 0 MIN = -1", "ways 0 -2147483639 = -1",
            "ways 0 100 = -1", "ways 0 110 = -1", "ways 1 0 = -1", "ways 1 1 = -1", "ways 1 10 = -1", "ways -2 0 = -1",
            "ways -2 10 = -1", "ways MAX 0 = -1", "ways MIN 0 = -1", "ways 30 1 = -1");
    }

    private static void heightsAtFirst() {
        Script.run("HEIGHT of the SOURCE is 12, of others 0; nothing was PUSHED",
            "heights -1 0 = 0", "heights 0 * = 12 0 0 -1", "heights 1 * = 0 0 0 -1", "heights 11 * = 0 0 0 -1", "ends 5 3 = 1",
            "heights 5 0 = 12", "heights 0 0 = 0", "heights 3 0 = 0");
        Script.run("by each GATE from the SOURCE CAPACITY is PUSHED (where it is above 0)",
            "gate 0 11 0 0 1 = 0", "heights -1 0 = 0", "gate 0 11 0 1 1 = 1", "heights -1 0 = 1", "gate 0 11 0 5 1 = 2",
            "heights -1 0 = 2", "turn 2 0 = 1", "heights -1 0 = 1", "byHeights * = 0 1 0 -1", "heights 11 * = 0 0 0");
    }

    private static void served() {
        Script.run("WAITING are NODES but SOURCE and SINK; Without EXCESS it is WAITING no more",
            "gate 0 1 0 5 1 = 0", "gate 1 11 0 5 1 = 1", "heights -1 0 = 2", "heights 0 * = 12 0 0", "heights 1 * = 1 1 1",
            "heights 11 * = 0 0 0");
        // 1 has two gates on and both are 1 lower: the first by its numbers gets all that it takes.
        Script.run("by the first of its STEPS that has ROOM and leads to a NODE whose HEIGHT is just 1 less, as much as EXCESS and ROOM allow",
            "gate 1 11 0 3 1 = 0", "gate 1 11 0 4 1 = 1", "gate 0 1 0 5 1 = 2", "byHeights * = 3 2 5", "heights -1 0 = 3",
            "widen 2 3 = 5", "byHeights * = 3 0 3", "heights -1 0 = 2", "widen 2 2 = 3", "byHeights * = 2 0 2", "heights 1 * = 1 1 1");
        // 2 is served first: 1 has got its water when it is served.
        Script.run("WAITING: in the order in which they got EXCESS, by the numbers of the gates",
            "gate 0 2 0 3 1 = 0", "gate 0 1 0 3 1 = 1", "gate 2 1 0 3 1 = 2", "gate 1 11 0 9 1 = 3", "heights 2 * = 1 1 1",
            "heights 1 * = 1 1 1", "heights -1 0 = 4", "byHeights * = 3 3 3 6");
        // 1 is served first: it is higher when 2 is served, and waits once more.
        Script.run("WAITING: the other way round",
            "gate 0 1 0 3 1 = 0", "gate 0 2 0 3 1 = 1", "gate 2 1 0 3 1 = 2", "gate 1 11 0 9 1 = 3", "heights 2 * = 2 1 1",
            "heights 1 * = 1 1 2", "heights -1 0 = 5", "byHeights * = 3 3 3 6");
        Script.run("A NODE that gets EXCESS comes behind: 3 behind 2, which got it at first",
            "gate 0 1 0 2 1 = 0", "gate 0 2 0 2 1 = 1", "gate 1 3 0 2 1 = 2", "gate 2 3 0 2 1 = 3", "gate 3 11 0 9 1 = 4",
            "heights 3 * = 1 1 1", "heights 2 * = 1 1 1", "heights -1 0 = 5", "byHeights * = 2 2 2 2 4");
    }

    private static void lifted() {
        // Nothing leads on: 1 is lifted above the source at once, and gives all back.
        Script.run("its HEIGHT is 1 more than the least of those to which it has a STEP with ROOM",
            "gate 0 1 0 4 1 = 0", "heights -1 0 = 2", "heights 1 * = 13 1 1", "byHeights 0 = 0", "gate 1 2 0 0 1 = 1",
            "heights 1 * = 13 1 1", "gate 1 11 0 4 1 = 2", "heights 1 * = 1 1 1", "heights -1 0 = 2", "widen 2 3 = 4",
            "heights 1 * = 13 2 1", "heights -1 0 = 3", "byHeights * = 3 0 3");
        // 1 sends 1 to 2 first (gate 1), which gives it back by a step backward once it is higher.
        Script.run("a NODE that gets EXCESS, and isn't WAITING, comes behind",
            "gate 0 1 0 2 1 = 0", "gate 1 2 0 1 1 = 1", "gate 1 11 0 9 1 = 2", "byHeights * = 2 0 2", "heights 1 * = 1 1 2",
            "heights 2 * = 2 1 1", "heights -1 0 = 5");
    }

    private static void roomByHeights() {
        // 2 is lower than 1, but nothing came from there: no water goes against 2>1.
        Script.run("BY HEIGHTS: a step backward has no ROOM where no water is",
            "gate 2 1 0 5 1 = 0", "gate 0 1 0 4 1 = 1", "gate 1 11 0 3 1 = 2", "heights 1 * = 13 2 1", "heights 2 * = 0 0 0",
            "heights -1 0 = 3", "byHeights * = 0 3 3");
        // 1 is served twice: 3 first, then 4 of which 2 find room.
        Script.run("as much as EXCESS and ROOM allow: what is left of a gate that was used",
            "gate 0 1 0 3 1 = 0", "gate 0 2 0 4 1 = 1", "gate 1 11 0 5 1 = 2", "gate 2 1 0 4 1 = 3", "byHeights 2 = 5", "most = 5",
            "widen 2 7 = 5", "byHeights * = 3 4 7 4", "heights -1 0 = 5", "widen 2 6 = 7", "byHeights 2 = 6");
        Script.run("what is worked out once more begins anew, with other ends",
            "gate 0 1 0 5 1 = 0", "gate 1 2 0 5 1 = 1", "ends 0 1 = 1", "byHeights * = 5 0", "heights -1 0 = 1", "ends 0 2 = 1",
            "byHeights * = 5 5", "heights -1 0 = 2", "heights 1 * = 1 1 1", "ends 1 2 = 1", "byHeights * = 0 5", "heights -1 0 = 1",
            "heights 0 * = 0 0 0", "ends 0 2 = 1", "byHeights * = 5 5", "heights 1 * = 1 1 1");
    }

    private static void heightsAsked() {
        Script.run("heights: NONE: node, what; node -1, what 0",
            "heights 12 0 = -1", "heights -2 0 = -1", "heights MAX 0 = -1", "heights MIN 0 = -1", "heights 0 3 = -1", "heights 0 -1 = -1",
            "heights 0 MAX = -1", "heights 0 MIN = -1", "heights -1 1 = -1", "heights -1 2 = -1", "heights -1 -1 = -1", "heights -1 3 = -1",
            "heights 11 0 = 0", "heights 11 2 = 0", "heights 0 2 = 0");
        Script.run("byHeights: NONE", "byHeights 0 = -1", "byHeights -1 = -1", "gate 0 11 0 3 1 = 0", "byHeights * = 3 -1",
            "byHeights -1 = -1", "byHeights 30 = -1", "byHeights MAX = -1", "byHeights MIN = -1", "drop = 0", "byHeights 0 = -1");
    }

    private static void nearAndFar() {
        Script.run("NEAR (the SOURCE, too); FAR (the SINK, too): without any gate",
            "near = 1", "far = 2048", "ends 3 4 = 1", "near = 8", "far = 16", "ends 11 0 = 1", "near = 2048", "far = 1");
        Script.run("by STEPS with ROOM: a gate with 1 left is one, a full one isn't",
            "gate 0 1 0 5 1 = 0", "gate 1 11 0 4 1 = 1", "near = 3", "far = 2048", "widen 0 4 = 5", "near = 1", "far = 2048",
            "widen 1 5 = 4", "near = 1", "far = 2050");
        Script.run("by STEPS backward: there is room for one if water is there",
            "gate 1 0 0 5 1 = 0", "near = 1", "gate 2 11 0 1 1 = 1", "gate 1 2 0 9 1 = 2", "gate 0 2 0 1 1 = 3", "far = 2048",
            "widen 3 9 = 1", "near = 5", "gate 0 1 0 9 1 = 4", "near = 7");
        // 0>1>2>11 is full at 0>1 and 2>11; 3 reaches 2, and from there 1 by a step backward.
        Script.run("NEAR by a step backward alone",
            "gate 0 1 0 1 1 = 0", "gate 1 2 0 9 1 = 1", "gate 2 11 0 1 1 = 2", "near = 1", "gate 0 3 0 9 1 = 3", "gate 3 2 0 9 1 = 4",
            "near = 15", "far = 2048");
        // From 2 nothing leads on; but its 1 from 1 can be given back, and 1 reaches the sink by 4.
        Script.run("FAR by a step backward alone",
            "gate 0 1 0 1 1 = 0", "gate 1 2 0 1 1 = 1", "gate 2 11 0 1 1 = 2", "gate 1 4 0 1 1 = 3", "gate 4 11 0 1 1 = 4",
            "near = 1", "far = 2070", "cut 0 = 1", "cut 1 = 1", "wide = 1");
    }

    private static void cuts() {
        Script.run("cut: NONE", "cut -1 = -1", "cut 2 = -1", "cut MAX = -1", "cut MIN = -1", "cut * = 0 0 -1");
        Script.run("CUT 0: from a NODE that is NEAR to one that isn't; CUT 1: from one that isn't FAR to one that is (OPEN ones alone)",
            "gate 0 1 0 5 1 = 0", "gate 1 2 0 9 1 = 1", "gate 2 11 0 5 1 = 2", "cut * = 1 4", "gate 1 0 0 9 1 = 3", "gate 11 2 0 9 1 = 4",
            "cut * = 1 4", "gate 0 2 0 0 1 = 5", "cut * = 33 4", "turn 5 0 = 1", "cut * = 1 4", "gate 1 11 0 0 1 = 6", "cut * = 1 68",
            "turn 6 0 = 1", "cut * = 1 4", "turn 0 0 = 1", "cut * = 0 0", "gate 0 1 0 0 1 = 7", "cut * = 128 128");
    }

    private static void wideAndNarrow() {
        Script.run("WIDE GATES: OPEN ones by which MOST would be more, were their CAPACITY 1 more",
            "wide = 0", "gate 0 11 0 0 1 = 0", "wide = 1", "turn 0 0 = 1", "wide = 0", "turn 0 1 = 0", "widen 0 999 = 0", "wide = 1",
            "gate 0 1 0 3 1 = 1", "wide = 1", "gate 1 11 0 3 1 = 2", "wide = 1", "widen 1 4 = 3", "wide = 5", "widen 2 5 = 3", "wide = 3",
            "gate 11 0 0 1 1 = 3", "wide = 3");
        Script.run("NARROW ones: by which it would be less, were it 1 less (CAPACITY above 0)",
            "narrow = 0", "gate 0 11 0 0 1 = 0", "narrow = 0", "widen 0 1 = 0", "narrow = 1", "turn 0 0 = 1", "narrow = 0",
            "gate 0 1 0 4 1 = 1", "gate 1 11 0 3 1 = 2", "narrow = 4", "widen 1 3 = 4", "narrow = 6", "gate 0 1 0 1 1 = 3",
            "narrow = 4", "gate 1 11 0 1 1 = 4", "narrow = 30", "gate 11 1 0 5 1 = 5", "narrow = 30");
        // All of 0>1 is used, but its last one could go by 0>2>1; all of it is needed only when that is full, too.
        Script.run("a full one isn't NARROW if its water can go around it",
            "gate 0 1 0 4 1 = 0", "gate 1 11 0 4 1 = 1", "gate 0 2 0 1 1 = 2", "gate 2 1 0 1 1 = 3", "water 0 = 4", "narrow = 2",
            "widen 1 5 = 4", "narrow = 15");
    }

    private static void more() {
        Script.run("more: n (0 .. 999). NONE; BAD; STATE: it is SHUT",
            "more 0 0 = -1", "gate 0 11 0 999 1 = 0", "more 0 0 = 0", "more 0 1 = 1", "more 0 999 = 999", "more 0 1000 = -2",
            "more 0 -1 = -2", "more 0 MAX = -2", "more 0 MIN = -2", "more 1 5 = -1", "more -1 5 = -1", "more 1 1000 = -1",
            "more MAX MAX = -1", "turn 0 0 = 1", "more 0 5 = -3", "more 0 0 = -3", "more 0 1000 = -2", "more 0 -1 = -2", "more 1 5 = -1",
            "turn 0 1 = 0", "of 0 3 = 999", "most = 999");
        Script.run("How much more MOST would be: what the others let through, at most",
            "gate 0 1 0 2 1 = 0", "gate 1 11 0 5 1 = 1", "more 0 0 = 0", "more 0 2 = 2", "more 0 3 = 3", "more 0 4 = 3", "more 0 999 = 3",
            "more 1 999 = 0", "gate 0 1 0 0 1 = 2", "more 2 3 = 3", "most = 2");
    }

    private static void loss() {
        Script.run("loss: BAD: it is below 0, or has others than there are",
            "loss 0 = 0", "loss 1 = -2", "loss -1 = -2", "gate 0 11 0 5 1 = 0", "loss 0 = 0", "loss 1 = 5", "loss 2 = -2", "loss 3 = -2",
            "gate 0 11 0 6 1 = 1", "loss * = 0 5 6 11 -2", "loss 7 = -2", "loss 1073741824 = -2", "loss 1073741825 = -2", "loss MAX = -2",
            "loss MIN = -2", "loss -2147483647 = -2", "loss -1 = -2", "turn 1 0 = 1", "loss * = 0 5 0 5", "drop = 1", "loss 2 = -2",
            "told 1 = 1", "most = 5");
    }

    private static void worst() {
        Script.run("worst: NONE: what; -5: there are no such",
            "worst * = -5 -5 -5 -5 -1", "worst -1 = -1", "worst MAX = -1", "worst MIN = -1", "gate 0 11 0 5 1 = 0",
            "worst * = 0 5 -5 -5 -1", "worst -1 = -1", "gate 0 11 0 6 1 = 1", "worst * = 1 6 1 11 -1", "drop = 1",
            "worst * = 0 5 -5 -5", "turn 0 0 = 1", "worst * = 0 0 -5 -5", "drop = 0", "worst * = -5 -5 -5 -5");
        Script.run("of several the least; of several the first by that",
            "gate 3 4 0 9 1 = 0", "gate 0 11 0 0 1 = 1", "gate 0 11 0 0 1 = 2", "worst * = 0 0 1 0", "widen 1 4 = 0", "widen 2 4 = 0",
            "worst * = 1 4 102 8", "gate 0 11 0 4 1 = 3", "worst * = 1 4 102 8", "gate 0 11 0 5 1 = 4", "worst * = 4 5 104 9",
            "turn 1 0 = 1", "worst * = 4 5 204 9");
        Script.run("LOSS of two together can be more than that of each, and less",
            "gate 0 1 0 4 1 = 0", "gate 0 2 0 4 1 = 1", "gate 1 11 0 4 1 = 2", "gate 2 11 0 4 1 = 3", "gate 1 2 0 4 1 = 4",
            "worst * = 0 4 1 8", "gate 2 11 0 4 1 = 5", "worst * = 0 4 1 8", "loss 8 = 0", "loss 40 = 4", "loss 4 = 0");
        GateFlow x = new GateFlow();
        for (int g = 0; g < 28; g++) {
            x.gate(1, 2, 0, 9, 1);
        }
        Script.on(x, "the last two of 30", "gate 0 11 0 7 1 = 28", "gate 0 11 0 8 1 = 29", "worst * = 29 8 2829 15");
    }

    private static void wayBack() {
        // 0-1-2-11 is the shortest, and blocks: 0-3-6-2 must send it back to 1, from where 4 and 5 lead on.
        Script.run("steps backward count in whatever would be, too",
            "gate 0 1 0 3 1 = 0", "gate 1 2 0 9 1 = 1", "gate 2 11 0 3 1 = 2", "gate 0 3 0 9 1 = 3", "gate 3 6 0 9 1 = 4",
            "gate 6 2 0 9 1 = 5", "gate 1 4 0 9 1 = 6", "gate 4 5 0 9 1 = 7", "gate 5 11 0 9 1 = 8", "most = 6", "ways -1 0 = 2",
            "ways 1 * = 3 7", "ways 1 10* = 3 4 5 101 6 7 8 -1", "loss 0 = 0", "loss 1 = 3", "loss 2 = 0", "loss 4 = 3", "loss 8 = 3",
            "more 1 5 = 0", "more 0 2 = 2", "more 0 999 = 6", "more 2 2 = 2", "more 3 9 = 0", "worst * = 0 3 2 6", "apart * = 2 2",
            "hours 3* = 3 6 12 18 24 30", "bound * = 6 0", "bind 4 2 = 0", "bound * = 6 2", "wide = 5", "narrow = 5", "near = 77", "far = 2098");
        Script.run("a gate that lets 1 through counts in whatever would be",
            "gate 0 11 0 1 1 = 0", "loss * = 0 1 -2", "more 0 0 = 0", "more 0 1 = 1", "worst * = 0 1 -5 -5", "bound * = 1 0", "hours 8 = 8");
    }

    /** A gate that has water, and a lesser number, is no step of a node where it doesn't lead. */
    private static void othersSteps() {
        Script.run("backward (from TO to FROM): from its own TO alone",
            "gate 1 4 0 9 1 = 0", "gate 0 1 0 5 1 = 1", "gate 1 2 0 9 1 = 2", "gate 2 11 0 3 1 = 3", "gate 0 3 0 9 1 = 4",
            "gate 3 6 0 9 1 = 5", "gate 6 2 0 9 1 = 6", "gate 4 5 0 9 1 = 7", "gate 5 11 0 9 1 = 8", "ways -1 0 = 3", "ways 0 0 = 3",
            "ways 0 10* = 1 2 3 -1", "ways 1 0 = 2", "ways 1 10* = 1 0 7 8 -1", "ways 2 0 = 3", "ways 2 10* = 4 5 6 102 0 7 8 -1",
            "water * = 5 5 0 3 3 3 3 5 5");
        Script.run("backward by heights: from its own TO alone",
            "gate 0 2 0 5 1 = 0", "gate 0 1 0 4 1 = 1", "gate 2 11 0 5 1 = 2", "byHeights * = 5 0 5", "heights 1 * = 13 1 1",
            "heights 2 * = 1 1 1", "heights -1 0 = 4");
    }

    /** 16 gates from 1 to 2 are filled one by one (3 steps a way), emptied (5 steps), and filled again (9 steps). */
    private static void manyWays() {
        GateFlow x = new GateFlow();
        int[][] around = {{0, 1}, {2, 11}, {0, 3}, {3, 2}, {1, 4}, {4, 11}, {0, 5}, {5, 6}, {6, 7}, {7, 1}, {2, 8}, {8, 9}, {9, 10}, {10, 11}};
        for (int n = 1; n <= 16; n++) {
            x.gate(1, 2, 0, n, 1);
        }
        for (int[] g : around) {
            x.gate(g[0], g[1], 0, 136, 1);
        }
        String sentence = "That goes on until there is no WAY: more ways than gates";
        Script.on(x, sentence, "most = 408", "ways -1 0 = 48", "ways 48 0 = -1", "told 8 = 48");
        for (int n = 0; n < 16; n++) {
            Script.on(x, sentence, "ways " + n + " * = " + (n + 1) + " 3", "ways " + n + " 10* = 16 " + n + " 17 -1",
                "ways " + (16 + n) + " * = " + (n + 1) + " 5", "ways " + (16 + n) + " 10* = 18 19 " + (100 + n) + " 20 21 -1",
                "ways " + (32 + n) + " * = " + (n + 1) + " 9", "ways " + (32 + n) + " 10* = 22 23 24 25 " + n + " 26 27 28 29 -1");
        }
        Script.on(x, sentence, "water * = 1 2 3 4 5 6 7 8 9 10 11 12 13 14 15 16 136 136", "near = 1", "far = 2048");
    }

    private static void lines() {
        Script.run("lines: how many (i -1). NONE: i, what",
            "lines -1 0 = 0", "lines 0 0 = -1", "gate 0 1 0 6 1 = 0", "gate 1 11 0 4 1 = 1", "lines -1 0 = 1", "lines 0 * = 4 2 0 -1",
            "lines 0 8* = -1 -1 0 1 -1", "lines 0 -1 = -1", "lines 0 MAX = -1", "lines 0 MIN = -1", "lines 0 -2147483639 = -1",
            "lines 1 0 = -1", "lines 1 10 = -1", "lines -2 0 = -1", "lines MAX 0 = -1", "lines MIN 0 = -1", "told 9 = 1", "told 10 = 0");
        // Ways: 0-3-11 and so on; lines take the gate of the least number at each node, not the ways as they came.
        Script.run("at each NODE by the GATE of the least number that has water left; as much as its GATE with the least that is left",
            "gate 0 1 0 3 1 = 0", "gate 1 2 0 3 1 = 1", "gate 0 2 0 4 1 = 2", "gate 2 11 0 2 1 = 3", "gate 2 11 0 5 1 = 4",
            "most = 7", "ways 0 10* = 2 3", "lines -1 0 = 3", "lines 0 * = 2 3 0", "lines 0 10* = 0 1 3 -1", "lines 1 * = 1 3 0",
            "lines 1 10* = 0 1 4 -1", "lines 2 * = 4 2 0", "lines 2 10* = 2 4 -1");
        // 0-1-2-11, then 0-5-2-1-3-11: 1>2 and 2>1 make a ring, which is met on the first walk.
        Script.run("or at a NODE where one has been: then what lies between is a RING (it alone is taken)",
            "gate 5 2 0 2 1 = 0", "gate 0 1 0 1 1 = 1", "gate 1 2 0 2 1 = 2", "gate 2 1 0 1 1 = 3", "gate 1 3 0 2 1 = 4",
            "gate 2 11 0 1 1 = 5", "gate 0 5 0 2 1 = 6", "gate 3 11 0 1 1 = 7", "lines -1 0 = 3", "lines 0 * = 1 2 1",
            "lines 0 10* = 2 3 -1", "lines 1 * = 1 3 0", "lines 1 10* = 1 4 7 -1", "lines 2 * = 1 3 0", "lines 2 10* = 6 0 5 -1",
            "told 8* = 2 2 1");
        // 2>1 has 1, 1>2 has 2: the ring takes 1 of each, and a line the other one of 1>2.
        Script.run("a RING has as much as its GATE with the least that is left; so much less is left by each of its GATES",
            "gate 1 2 0 5 1 = 0", "gate 2 1 0 1 1 = 1", "gate 0 1 0 2 1 = 2", "gate 2 11 0 2 1 = 3", "gate 1 3 0 9 1 = 4", "gate 3 4 0 9 1 = 5",
            "gate 4 11 0 9 1 = 6", "gate 0 5 0 1 1 = 7", "gate 5 2 0 9 1 = 8", "most = 3", "water * = 2 1 2 2 1 1 1 1 1", "lines -1 0 = 4",
            "lines 0 * = 1 2 1", "lines 0 10* = 0 1 -1", "lines 1 * = 1 3 0", "lines 1 10* = 2 0 3 -1", "lines 2 * = 1 4 0",
            "lines 2 10* = 2 4 5 6 -1", "lines 3 * = 1 3 0", "lines 3 10* = 7 8 3 -1", "lines 4 0 = -1", "told 8* = 2 3 1");
        // 1>2 and 2>1 have water, but the least numbers lead past them.
        Script.run("That goes on while a GATE from the SOURCE has water left: no longer",
            "gate 1 3 0 2 1 = 0", "gate 2 11 0 1 1 = 1", "gate 0 1 0 1 1 = 2", "gate 1 2 0 2 1 = 3", "gate 2 1 0 1 1 = 4", "gate 3 4 0 2 1 = 5",
            "gate 4 11 0 2 1 = 6", "gate 0 5 0 1 1 = 7", "gate 5 2 0 2 1 = 8", "water * = 1 1 1 1 1 1 1 1 1", "lines -1 0 = 2",
            "lines 0 * = 1 4 0", "lines 0 10* = 2 0 5 6 -1", "lines 1 * = 1 3 0", "lines 1 10* = 7 8 1 -1", "told 8* = 2 2 0");
    }
}
