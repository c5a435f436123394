/** Promises 1 to 8: a new object, gates and ends; 26: twos; 42 and 43: the image. */
final class GatesTest {
    public static void main(String[] args) {
        promise1();
        promise2();
        promise3();
        promise4();
        promise5();
        promise6();
        promise7();
        promise8();
        promise26();
        promise42and43();
        Check.end("GatesTest");
    }

    private static void promise1() {
        GateFlow x = new GateFlow();
        Check.due("NONE", GateFlow.NONE, -1);
        Check.due("BAD", GateFlow.BAD, -2);
        Check.due("STATE", GateFlow.STATE, -3);
        Check.due("FULL", GateFlow.FULL, -4);
        Check.due("new: gates", x.told(0), 0);
        Check.due("new: open ones", x.told(1), 0);
        Check.due("new: source", x.told(2), 0);
        Check.due("new: sink", x.told(3), 11);
        Check.due("new: tape", x.told(6), 0);
        Check.due("new: paper", x.told(7), 0);
        Check.due("new: most", x.most(), 0);
        Check.due("new: no list", x.judge(0, 0), -11);
        Check.due("new: no image", x.undo(), -3);
        Check.due("new: no gate to drop", x.drop(), -3);
        GateFlow y = new GateFlow();
        y.gate(0, 1, 0, 1, 1);
        Check.due("objects share nothing", x.told(0), 0);
    }

    private static void promise2() {
        GateFlow x = new GateFlow();
        Check.due("first gate", x.gate(0, 11, 0, 0, 1), 0);
        Check.due("all at the top", x.gate(11, 0, 999, 999, 3), 1);
        Check.due("comes OPEN", x.of(1, 5), 1);
        int[][] none = {{-1, 1}, {12, 1}, {1, -1}, {1, 12}, {5, 5}, {Integer.MIN_VALUE, 1}, {1, Integer.MAX_VALUE}};
        for (int[] n : none) {
            Check.due("no node", x.gate(n[0], n[1], 0, 1, 1), -1);
            Check.due("no node ahead of all else", x.gate(n[0], n[1], -1, -1, 0), -1);
        }
        int[][] bad = {{-1, 5, 1}, {6, 5, 1}, {0, -1, 1}, {0, 1000, 1}, {0, 5, 0}, {0, 5, 4}, {0, 5, -1}, {-5, -1, 1}};
        for (int[] b : bad) {
            Check.due("bad gate", x.gate(0, 1, b[0], b[1], b[2]), -2);
        }
        Check.due("nothing came of them", x.told(0), 2);
        for (int g = 2; g < 30; g++) {
            Check.due("gate " + g, x.gate(g % 11, 11, 0, g, 1 + g % 3), g);
        }
        Check.due("no more than 30", x.gate(0, 1, 0, 1, 1), -4);
        Check.due("NONE ahead of FULL", x.gate(0, 0, 0, 1, 1), -1);
        Check.due("BAD ahead of FULL", x.gate(0, 1, 0, 1, 4), -2);
        Check.due("still 30", x.told(0), 30);
    }

    private static void promise3() {
        GateFlow x = new GateFlow();
        x.gate(3, 7, 2, 9, 2);
        x.gate(7, 3, 1, 8, 3);
        int[] want = {3, 7, 2, 9, 2, 1};
        int[] second = {7, 3, 1, 8, 3, 1};
        for (int what = 0; what < 6; what++) {
            Check.due("of 0 " + what, x.of(0, what), want[what]);
            Check.due("of 1 " + what, x.of(1, what), second[what]);
        }
        x.turn(0, 0);
        Check.due("shut", x.of(0, 5), 0);
        Check.due("capacity is kept while it is shut", x.of(0, 3), 9);
        Check.due("least is kept while it is shut", x.of(0, 2), 2);
        Check.due("no gate -1", x.of(-1, 0), -1);
        Check.due("no gate 2", x.of(2, 0), -1);
        Check.due("no what -1", x.of(0, -1), -1);
        Check.due("no what 6", x.of(0, 6), -1);
        Check.due("neither", x.of(Integer.MAX_VALUE, Integer.MIN_VALUE), -1);
    }

    private static void promise4() {
        GateFlow x = new GateFlow();
        x.gate(0, 11, 3, 10, 1);
        Check.due("widen answers what was", x.widen(0, 20), 10);
        Check.due("it became 20", x.of(0, 3), 20);
        Check.due("MOST follows", x.most(), 20);
        Check.due("down to LEAST", x.widen(0, 3), 20);
        Check.due("below LEAST", x.widen(0, 2), -2);
        Check.due("below 0", x.widen(0, -1), -2);
        Check.due("above 999", x.widen(0, 1000), -2);
        Check.due("no gate", x.widen(1, 5), -1);
        Check.due("no gate, ahead of BAD", x.widen(-1, 1000), -1);
        Check.due("still 3", x.of(0, 3), 3);
        Check.due("up to 999", x.widen(0, 999), 3);
        Check.due("MOST follows again", x.most(), 999);
    }

    private static void promise5() {
        GateFlow x = new GateFlow();
        x.gate(0, 11, 3, 10, 1);
        Check.due("bind answers what was", x.bind(0, 10), 3);
        Check.due("it became 10", x.of(0, 2), 10);
        Check.due("SMALLEST follows", x.bound(1), 10);
        Check.due("above CAPACITY", x.bind(0, 11), -2);
        Check.due("below 0", x.bind(0, -1), -2);
        Check.due("no gate", x.bind(1, 0), -1);
        Check.due("no gate, ahead of BAD", x.bind(-1, -1), -1);
        Check.due("still 10", x.bind(0, 0), 10);
        Check.due("SMALLEST follows again", x.bound(1), 0);
    }

    private static void promise6() {
        GateFlow x = new GateFlow();
        x.gate(0, 11, 3, 10, 1);
        x.gate(0, 11, 0, 5, 1);
        Check.due("turn answers what was", x.turn(0, 0), 1);
        Check.due("MOST without it", x.most(), 5);
        Check.due("its LEAST doesn't count", x.bound(1), 0);
        Check.due("shut again", x.turn(0, 0), 0);
        Check.due("opened", x.turn(0, 1), 0);
        Check.due("MOST with it", x.most(), 15);
        Check.due("its LEAST counts", x.bound(1), 3);
        Check.due("no gate", x.turn(2, 0), -1);
        Check.due("no open 2", x.turn(0, 2), -1);
        Check.due("no open -1", x.turn(0, -1), -1);
        Check.due("still open", x.of(0, 5), 1);
    }

    private static void promise7() {
        GateFlow x = new GateFlow();
        Check.due("none to drop", x.drop(), -3);
        x.gate(0, 11, 0, 10, 1);
        x.gate(0, 11, 0, 5, 1);
        Check.due("MOST ahead", x.most(), 15);
        Check.due("one left", x.drop(), 1);
        Check.due("the last is gone", x.most(), 10);
        Check.due("its number is none", x.of(1, 0), -1);
        Check.due("none left", x.drop(), 0);
        Check.due("none to drop again", x.drop(), -3);
        x.gate(0, 11, 0, 7, 2);
        Check.due("the next has the number 0", x.of(0, 3), 7);
    }

    private static void promise8() {
        GateFlow x = new GateFlow();
        x.gate(1, 2, 0, 6, 1);
        Check.due("MOST from 0 to 11", x.most(), 0);
        Check.due("ends 1 2", x.ends(1, 2), 1);
        Check.due("MOST from 1 to 2", x.most(), 6);
        Check.due("source", x.told(2), 1);
        Check.due("sink", x.told(3), 2);
        int[][] none = {{0, 0}, {11, 11}, {-1, 0}, {0, -1}, {12, 0}, {0, 12}, {Integer.MIN_VALUE, Integer.MAX_VALUE}};
        for (int[] n : none) {
            Check.due("no ends", x.ends(n[0], n[1]), -1);
        }
        Check.due("ends as they were", x.told(2) * 100 + x.told(3), 102);
        Check.due("ends 2 1", x.ends(2, 1), 1);
        Check.due("MOST from 2 to 1", x.most(), 0);
    }

    private static void promise26() {
        GateFlow x = new GateFlow();
        Check.due("no twos", x.two(-1, 0), 0);
        Check.due("no two 0", x.two(0, 0), -1);
        x.gate(3, 4, 0, 5, 1);
        x.gate(4, 3, 0, 6, 1);
        x.gate(3, 4, 0, 7, 2);
        x.gate(0, 1, 0, 8, 1);
        x.gate(3, 4, 0, 9, 1);
        x.turn(2, 0);
        x.turn(3, 0);
        int[][] want = {{3, 4, 3, 14}, {4, 3, 1, 6}, {0, 1, 1, 0}};
        Check.due("three twos", x.two(-1, 0), 3);
        for (int i = 0; i < 3; i++) {
            for (int what = 0; what < 4; what++) {
                Check.due("two " + i + " " + what, x.two(i, what), want[i][what]);
            }
            Check.due("no what -1", x.two(i, -1), -1);
            Check.due("no what 4", x.two(i, 4), -1);
        }
        Check.due("no two 3", x.two(3, 0), -1);
        x.gate(3, 5, 0, 1, 1);
        x.gate(5, 4, 0, 2, 1);
        Check.due("the same FROM alone, the same TO alone: unlike", x.two(-1, 0), 5);
        Check.due("3 to 4 is as it was", x.two(0, 2), 3);
        x.drop();
        x.drop();
        x.drop();
        Check.due("one of 3 to 4 is gone", x.two(0, 2), 2);
        Check.due("its capacity, too", x.two(0, 3), 5);
        Check.due("three are left", x.two(-1, 0), 3);
        Check.due("what is told follows", x.told(4), 0);
        Check.due("no two -2", x.two(-2, 0), -1);
    }

    private static void promise42and43() {
        GateFlow x = new GateFlow();
        Check.due("no image", x.undo(), -3);
        x.gate(0, 11, 2, 10, 2);
        x.gate(0, 5, 0, 3, 1);
        x.turn(1, 0);
        x.ends(0, 5);
        Check.due("image", x.image(), 2);
        x.list(0, 2);
        x.set(0, 0, 77);
        x.turn(1, 1);
        x.widen(0, 50);
        x.bind(0, 9);
        x.gate(1, 2, 0, 1, 1);
        x.ends(0, 11);
        x.spell();
        int paper = x.told(7);
        x.feed('c');
        Check.due("MOST ahead of undo", x.most(), 50);
        Check.due("undo", x.undo(), 2);
        int[] want = {0, 11, 2, 10, 2, 1};
        for (int what = 0; what < 6; what++) {
            Check.due("gate 0 as it was, " + what, x.of(0, what), want[what]);
        }
        Check.due("gate 1 is shut again", x.of(1, 5), 0);
        Check.due("gate 2 is gone", x.of(2, 0), -1);
        Check.due("ends as they were", x.told(3), 5);
        Check.due("MOST as it was", x.most(), 0);
        Check.due("the tape isn't in the image", x.told(6), 1);
        Check.due("the paper isn't in the image", x.told(7), paper);
        Check.due("lists aren't in the image", x.get(0, 0), 77);
        x.drop();
        x.drop();
        Check.due("the image stays", x.undo(), 2);
        x.turn(1, 1);
        Check.due("a later image", x.image(), 2);
        x.turn(1, 0);
        x.undo();
        Check.due("it is the later one", x.of(1, 5), 1);
        GateFlow y = new GateFlow();
        Check.due("an image of none", y.image(), 0);
        y.gate(0, 11, 0, 4, 1);
        Check.due("undo to none", y.undo(), 0);
        Check.due("MOST of none", y.most(), 0);
    }
}
