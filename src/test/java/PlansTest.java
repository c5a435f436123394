/** Promises 23 to 25 and 27: bounds, ways apart, hours, reach. */
final class PlansTest {
    public static void main(String[] args) {
        promise23();
        promise24();
        promise25();
        promise27();
        Check.end("PlansTest");
    }

    private static void bound(GateFlow x, String call, int greatest, int smallest) {
        Check.due(call + ": greatest", x.bound(0), greatest);
        Check.due(call + ": smallest", x.bound(1), smallest);
    }

    private static void promise23() {
        GateFlow x = new GateFlow();
        bound(x, "no gates", 0, 0);
        x.gate(0, 1, 2, 10, 1);
        x.gate(1, 11, 0, 8, 1);
        bound(x, "2 must go", 8, 2);
        x.bind(1, 5);
        bound(x, "5 must go on", 8, 5);
        x.bind(0, 9);
        bound(x, "9 must come, 8 can go", -5, -5);
        x.turn(1, 0);
        bound(x, "9 must come, none can go", -5, -5);
        x.turn(0, 0);
        bound(x, "shut ones have no LEAST", 0, 0);
        Check.due("no what 2", x.bound(2), -1);
        Check.due("no what -1", x.bound(-1), -1);

        GateFlow y = new GateFlow();
        y.gate(11, 0, 4, 9, 1);
        bound(y, "4 must come back: all values are below 0", -5, -5);
        y.gate(0, 11, 0, 3, 1);
        bound(y, "3 can go, 4 must come back", -5, -5);
        y.widen(1, 4);
        bound(y, "4 can go, 4 must come back", 0, 0);
        y.widen(1, 10);
        bound(y, "10 can go, 4 to 9 come back", 6, 0);
        y.bind(1, 10);
        bound(y, "10 must go, 4 to 9 come back", 6, 1);
        y.ends(11, 0);
        bound(y, "the other way round", -5, -5);

        // A ring beside the ends must carry 3; it can't if it is broken.
        GateFlow z = new GateFlow();
        z.gate(3, 4, 3, 5, 1);
        z.gate(4, 3, 0, 4, 1);
        z.gate(0, 11, 1, 7, 1);
        bound(z, "a ring carries its own", 7, 1);
        z.turn(1, 0);
        bound(z, "a ring that is broken", -5, -5);
        z.turn(1, 1);
        z.widen(1, 2);
        bound(z, "a ring that is too narrow", -5, -5);

        // LEAST makes water go where it costs MOST.
        GateFlow v = new GateFlow();
        v.gate(0, 1, 0, 5, 1);
        v.gate(1, 11, 0, 5, 1);
        v.gate(1, 0, 2, 5, 1);
        Check.due("most doesn't look at LEAST", v.most(), 5);
        bound(v, "2 must go back", 3, 0);
    }

    private static void promise24() {
        GateFlow x = new GateFlow();
        Check.due("none by gates", x.apart(0), 0);
        Check.due("none by nodes", x.apart(1), 0);
        // Two come to 1, two go on from it, by gates of their own.
        x.gate(0, 1, 0, 500, 1);
        x.gate(0, 1, 0, 1, 1);
        x.gate(1, 2, 0, 7, 1);
        x.gate(1, 3, 0, 7, 1);
        x.gate(2, 11, 0, 7, 1);
        x.gate(3, 11, 0, 7, 1);
        Check.due("two by gates", x.apart(0), 2);
        Check.due("one by nodes", x.apart(1), 1);
        x.gate(0, 11, 0, 9, 1);
        x.gate(0, 11, 0, 9, 1);
        Check.due("two straight ones more", x.apart(0), 4);
        Check.due("two straight ones more, by nodes, too", x.apart(1), 3);
        x.turn(6, 0);
        Check.due("one is shut", x.apart(0), 3);
        Check.due("one is shut, by nodes", x.apart(1), 2);
        x.widen(7, 0);
        Check.due("one has no capacity", x.apart(0), 2);
        Check.due("one has no capacity, by nodes", x.apart(1), 1);
        x.gate(2, 0, 0, 9, 1);
        x.gate(11, 3, 0, 9, 1);
        Check.due("those against it don't help", x.apart(0), 2);
        x.ends(11, 0);
        Check.due("the other way round", x.apart(0), 0);
        x.ends(1, 11);
        Check.due("from 1, by nodes: the source is in common", x.apart(1), 2);
        Check.due("no kind 2", x.apart(2), -1);
        Check.due("no kind -1", x.apart(-1), -1);
    }

    private static void promise25() {
        GateFlow x = new GateFlow();
        Check.due("no gates", x.hours(1), 0);
        x.gate(0, 1, 0, 10, 1);
        x.gate(1, 11, 0, 4, 2);
        int[] want = {0, 0, 4, 8, 12, 16, 20, 24};
        for (int n = 1; n <= 8; n++) {
            Check.due("10 an hour, then 4 an hour, in " + n, x.hours(n), want[n - 1]);
        }
        // Water waits at 1: what came in the first hour goes on in later ones.
        x.widen(0, 5);
        x.widen(1, 20);
        Check.due("5 an hour, in 8", x.hours(8), 30);
        x.gate(0, 11, 0, 7, 3);
        Check.due("in 2", x.hours(2), 0);
        Check.due("in 3: 5 and 7", x.hours(3), 12);
        Check.due("in 4", x.hours(4), 24);
        x.turn(2, 0);
        Check.due("shut: in 4", x.hours(4), 10);
        x.gate(11, 0, 0, 9, 1);
        x.gate(11, 1, 0, 9, 1);
        x.gate(1, 0, 0, 9, 1);
        Check.due("nothing need go back", x.hours(4), 10);
        int[] bad = {0, 9, -1, Integer.MAX_VALUE, Integer.MIN_VALUE};
        for (int n : bad) {
            Check.due("no hours " + n, x.hours(n), -2);
        }
        GateFlow w = new GateFlow();
        w.ends(3, 4);
        w.gate(3, 0, 0, 1, 1);
        w.gate(0, 4, 0, 1, 1);
        Check.due("by 0, which is no end then", w.hours(4), 3);
        GateFlow y = new GateFlow();
        for (int g = 0; g < 30; g++) {
            y.gate(0, 11, 0, 999, 1);
        }
        Check.due("all straight in 8", y.hours(8), 30 * 999 * 8);
        GateFlow z = new GateFlow();
        z.ends(11, 0);
        for (int v = 11; v > 4; v--) {
            z.gate(v, v == 5 ? 0 : v - 1, 0, 3, 1);
        }
        Check.due("seven gates in a row, in 6", z.hours(6), 0);
        Check.due("seven gates in a row, in 7", z.hours(7), 3);
        Check.due("seven gates in a row, in 8", z.hours(8), 6);
    }

    private static void promise27() {
        GateFlow x = new GateFlow();
        Check.due("where it is", x.reach(5, 20), 1 << 5);
        x.gate(0, 1, 0, 1, 3);
        x.gate(1, 2, 0, 1, 2);
        x.gate(0, 2, 0, 1, 3);
        x.gate(2, 3, 0, 1, 1);
        x.gate(3, 0, 0, 1, 1);
        x.gate(0, 4, 0, 0, 1);
        x.gate(0, 6, 0, 9, 1);
        x.turn(6, 0);
        Check.due("in 0", x.reach(0, 0), 1);
        Check.due("in 2", x.reach(0, 2), 1);
        Check.due("in 3", x.reach(0, 3), Check.bits(0, 1, 2));
        Check.due("in 4", x.reach(0, 4), Check.bits(0, 1, 2, 3));
        Check.due("in 20", x.reach(0, 20), Check.bits(0, 1, 2, 3));
        Check.due("from 2 in 2", x.reach(2, 2), Check.bits(2, 3, 0));
        Check.due("from 2 in 4", x.reach(2, 4), Check.bits(2, 3, 0));
        Check.due("from 2 in 5", x.reach(2, 5), Check.bits(2, 3, 0, 1));
        x.turn(6, 1);
        Check.due("opened, in 1", x.reach(0, 1), Check.bits(0, 6));
        Check.due("no node 12", x.reach(12, 0), -1);
        Check.due("no node -1", x.reach(-1, 0), -1);
        Check.due("no node, ahead of BAD", x.reach(12, 21), -1);
        Check.due("no hours 21", x.reach(0, 21), -2);
        Check.due("no hours -1", x.reach(0, -1), -2);
        GateFlow y = new GateFlow();
        for (int v = 0; v < 11; v++) {
            y.gate(v, v + 1, 0, 1, v < 10 ? 2 : 1);
        }
        Check.due("ten gates of two hours", y.reach(0, 20), (1 << 11) - 1);
        y.bind(0, 1);
        y.drop();
        Check.due("from 11 nowhere", y.reach(11, 20), 1 << 11);
    }
}
