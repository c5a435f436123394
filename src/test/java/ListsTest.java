/** Promises 37 to 41: lists, what is laid into them, how they are judged. */
final class ListsTest {
    private static final int NO = -2000000000;

    public static void main(String[] args) {
        promise37();
        promise38and39();
        promise40();
        promise41();
        Check.end("ListsTest");
    }

    private static void promise37() {
        GateFlow x = new GateFlow();
        Check.due("of 40", x.list(0, 40), 1);
        Check.due("of 0", x.list(3, 0), 1);
        Check.due("no list 4", x.list(4, 1), -1);
        Check.due("no list -1", x.list(-1, 1), -1);
        Check.due("no list, ahead of BAD", x.list(4, 41), -1);
        Check.due("no list, ahead of BELOW", x.list(-1, -1), -1);
        Check.due("41", x.list(0, 41), -2);
        Check.due("-1", x.list(0, -1), -14);
        Check.due("far too many", x.list(0, Integer.MAX_VALUE), -2);
        Check.due("far below", x.list(0, Integer.MIN_VALUE), -14);
        Check.due("the last place is there still", x.set(0, 39, 5), 1);
        Check.due("a new row", x.list(0, 40), 1);
        Check.due("is all 0", x.get(0, 39), 0);
        Check.due("a shorter row", x.list(0, 2), 1);
        Check.due("has no place 2", x.get(0, 2), NO);
        Check.due("one of 0 holds something", x.set(3, 0, 1), -13);
        Check.due("one that isn't made doesn't", x.set(2, 0, 1), -11);
    }

    private static void promise38and39() {
        GateFlow x = new GateFlow();
        for (int l = 0; l < 4; l++) {
            Check.due("nothing in " + l, x.set(l, 0, 1), -11);
            Check.due("nothing in " + l + ", ahead of BEYOND", x.set(l, -1, 1), -11);
            Check.due("nothing to get", x.get(l, 0), NO);
        }
        for (int l = 0; l < 4; l++) {
            x.list(l, 3);
            for (int i = 0; i < 3; i++) {
                Check.due("0 at first", x.get(l, i), 0);
                Check.due("set", x.set(l, i, 100 * l + i - 150), 1);
            }
        }
        for (int l = 0; l < 4; l++) {
            for (int i = 0; i < 3; i++) {
                Check.due("get " + l + " " + i, x.get(l, i), 100 * l + i - 150);
            }
            Check.due("set 3", x.set(l, 3, 1), -13);
            Check.due("set -1", x.set(l, -1, 1), -13);
            Check.due("set far off", x.set(l, Integer.MAX_VALUE, 1), -13);
            Check.due("get 3", x.get(l, 3), NO);
            Check.due("get -1", x.get(l, -1), NO);
            Check.due("get far off", x.get(l, Integer.MIN_VALUE), NO);
        }
        Check.due("no list 4", x.set(4, 0, 1), -1);
        Check.due("no list -1", x.set(-1, -1, 1), -1);
        Check.due("get of no list 4", x.get(4, 0), NO);
        Check.due("get of no list -1", x.get(-1, 0), NO);
        Check.due("the greatest", x.set(0, 0, Integer.MAX_VALUE), 1);
        Check.due("the greatest is held", x.get(0, 0), Integer.MAX_VALUE);
        Check.due("the least", x.set(0, 1, Integer.MIN_VALUE), 1);
        Check.due("the least is held", x.get(0, 1), Integer.MIN_VALUE);
    }

    /** The two flows differ: 4 go straight on by ways; by heights, some of what 2 gets goes to 1 first. */
    private static GateFlow net() {
        GateFlow x = new GateFlow();
        x.gate(0, 1, 0, 10, 1);
        x.gate(0, 2, 0, 7, 1);
        x.gate(1, 2, 0, 3, 1);
        x.gate(2, 1, 0, 4, 1);
        x.gate(1, 11, 0, 6, 1);
        x.gate(2, 11, 0, 9, 1);
        x.gate(1, 3, 0, 4, 1);
        x.gate(3, 11, 0, 2, 1);
        return x;
    }

    private static void promise40() {
        GateFlow x = net();
        // By ways as the shared run has it; by heights 2 gets 3 from 1 and gives 1 back.
        int[] ways = {10, 7, 2, 0, 6, 9, 2, 2};
        int[] heights = {10, 7, 3, 1, 6, 9, 2, 2};
        x.list(0, 10);
        Check.due("lay by ways", x.lay(0, 1, 0), 8);
        Check.due("ahead of it", x.get(0, 0), 0);
        for (int g = 0; g < 8; g++) {
            Check.due("laid " + g, x.get(0, 1 + g), ways[g]);
        }
        Check.due("behind it", x.get(0, 9), 0);
        Check.due("lay by heights", x.lay(0, 2, 1), 8);
        for (int g = 0; g < 8; g++) {
            Check.due("laid " + g, x.get(0, 2 + g), heights[g]);
        }
        x.list(1, 5);
        Check.due("not all have a place", x.lay(1, 2, 0), -13);
        int[] some = {0, 0, 10, 7, 2};
        for (int i = 0; i < 5; i++) {
            Check.due("some are there all the same", x.get(1, i), some[i]);
        }
        x.list(1, 5);
        int[] far = {-1, 5, 39, 40, Integer.MAX_VALUE, Integer.MAX_VALUE - 3, Integer.MIN_VALUE};
        for (int i : far) {
            Check.due("no place " + i, x.lay(1, i, 1), -13);
        }
        for (int i = 0; i < 5; i++) {
            Check.due("none was laid", x.get(1, i), 0);
        }
        x.list(2, 0);
        Check.due("a row of none", x.lay(2, 0, 0), -13);
        Check.due("no list 4", x.lay(4, 0, 0), -1);
        Check.due("no list -1", x.lay(-1, 0, 0), -1);
        Check.due("no way 2", x.lay(0, 0, 2), -1);
        Check.due("no way -1", x.lay(0, 0, -1), -1);
        Check.due("no way, ahead of NOTHING", x.lay(3, 0, 2), -1);
        Check.due("nothing held", x.lay(3, 0, 0), -11);
        Check.due("nothing held, ahead of BEYOND", x.lay(3, -1, 0), -11);
        GateFlow y = new GateFlow();
        y.list(0, 0);
        Check.due("no gates: all were laid", y.lay(0, 0, 0), 0);
    }

    private static void promise41() {
        GateFlow x = net();
        x.list(0, 12);
        x.lay(0, 2, 0);
        Check.due("by ways", x.judge(0, 2), 100017);
        x.lay(0, 4, 1);
        Check.due("by heights", x.judge(0, 4), 100017);
        Check.due("one place too few", x.judge(0, 5), -5);
        Check.due("far behind", x.judge(0, Integer.MAX_VALUE), -5);
        Check.due("below 0", x.judge(0, -1), -13);
        Check.due("far below 0", x.judge(0, Integer.MIN_VALUE), -13);
        Check.due("no list 4", x.judge(4, 0), -1);
        Check.due("no list, ahead of BEYOND", x.judge(-1, -1), -1);
        Check.due("nothing held", x.judge(1, 0), -11);
        Check.due("nothing held, ahead of BEYOND", x.judge(1, -1), -11);
        x.set(0, 7, 5);
        Check.due("above its CAPACITY", x.judge(0, 4), 3);
        x.set(0, 7, 2);
        Check.due("1 gets one too many", x.judge(0, 4), 101);
        x.set(0, 6, -1);
        Check.due("below 0: the first such gate", x.judge(0, 4), 2);
        x.set(0, 6, 3);
        x.set(0, 7, 1);
        x.set(0, 11, 1);
        Check.due("3 gets one too many", x.judge(0, 4), 103);
        x.set(0, 11, 2);
        Check.due("as it was", x.judge(0, 4), 100017);
        x.turn(3, 0);
        Check.due("a shut one has water", x.judge(0, 4), 3);
        x.set(0, 7, 0);
        Check.due("2 sends one too few then: 1 is first", x.judge(0, 4), 101);
        x.turn(3, 1);
        x.set(0, 7, 1);
        x.ends(0, 1);
        Check.due("11 is no end then, but 2 and 3 are in order", x.judge(0, 4), 111);

        GateFlow y = new GateFlow();
        y.gate(11, 0, 0, 9, 1);
        y.gate(0, 11, 0, 4, 1);
        y.list(0, 2);
        y.set(0, 0, 9);
        Check.due("a value below 0", y.judge(0, 0), 99991);
        y.set(0, 1, 4);
        Check.due("some goes back", y.judge(0, 0), 99995);
        y.bind(0, 9);
        y.set(0, 0, 0);
        Check.due("LEAST isn't asked", y.judge(0, 0), 100004);
        y.set(0, 0, Integer.MIN_VALUE);
        Check.due("far below 0", y.judge(0, 0), 0);
        y.drop();
        Check.due("one gate, and no place for it", y.judge(0, 2), -5);
        Check.due("one gate, and the last place", y.judge(0, 1), 100000 - 4);
        y.ends(5, 6);
        Check.due("0 is no end then", y.judge(0, 1), 100);
        y.drop();
        y.ends(0, 11);
        Check.due("no gates", y.judge(0, 0), 100000);
        Check.due("no gates, from anywhere", y.judge(0, 7), 100000);
        Check.due("no gates, but below 0", y.judge(0, -1), -13);
    }
}
