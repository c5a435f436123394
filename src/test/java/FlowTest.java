/** Promises 9 to 22: the most by ways and by heights, cuts, what gates are worth, lines and rings. */
final class FlowTest {
    public static void main(String[] args) {
        promise9and10();
        promise11();
        waysBackward();
        promise12and13();
        heightsInTurns();
        promise14to18();
        promise19();
        promise20();
        promise21();
        promise22();
        Check.end("FlowTest");
    }

    /** MOST is 23, by 0-1-3-11 (12), 0-2-4-11 (4), 0-2-4-3-11 (7). */
    static GateFlow net() {
        GateFlow x = new GateFlow();
        int[][] gates = {{0, 1, 16}, {0, 2, 13}, {1, 3, 12}, {2, 1, 4}, {3, 2, 9}, {2, 4, 14}, {4, 3, 7}, {3, 11, 20}, {4, 11, 4}};
        for (int[] g : gates) {
            x.gate(g[0], g[1], 0, g[2], 1);
        }
        return x;
    }

    /** The second way comes to 2 and goes on by 2>1, so 1>2 and 2>1 make a ring. */
    static GateFlow ringNet() {
        GateFlow x = new GateFlow();
        int[][] gates = {{5, 2, 2}, {0, 1, 1}, {1, 2, 2}, {2, 1, 1}, {1, 3, 2}, {2, 11, 1}, {0, 5, 2}, {3, 11, 1}};
        for (int[] g : gates) {
            x.gate(g[0], g[1], 0, g[2], 1);
        }
        return x;
    }

    private static void promise9and10() {
        GateFlow x = net();
        Check.due("most", x.most(), 23);
        int[] want = {12, 11, 12, 0, 0, 11, 7, 19, 4};
        for (int g = 0; g < want.length; g++) {
            Check.due("water " + g, x.water(g), want[g]);
        }
        Check.due("no water -1", x.water(-1), -1);
        Check.due("no water 9", x.water(9), -1);
        x.turn(2, 0);
        Check.due("most with 1>3 shut", x.most(), 11);
        Check.due("water of a shut one", x.water(2), 0);
        x.turn(2, 1);
        x.widen(2, 16);
        Check.due("most with 1>3 wider", x.most(), 24);
        x.ends(11, 0);
        Check.due("most the other way round", x.most(), 0);
        GateFlow y = new GateFlow();
        for (int g = 0; g < 30; g++) {
            y.gate(0, 11, 0, 999, 1);
        }
        Check.due("all straight", y.most(), 30 * 999);
        GateFlow z = new GateFlow();
        z.gate(0, 1, 0, 5, 1);
        z.gate(1, 0, 0, 5, 1);
        z.gate(1, 11, 0, 3, 1);
        z.gate(11, 1, 0, 3, 1);
        Check.due("gates against it don't help", z.most(), 3);
        Check.due("nor are they used", z.water(1) + z.water(3), 0);
    }

    private static void promise11() {
        GateFlow x = net();
        int[][] want = {{12, 3, 0, 2, 7}, {4, 3, 1, 5, 8}, {7, 4, 1, 5, 6, 7}};
        Check.due("three ways", x.ways(-1, 0), 3);
        for (int i = 0; i < 3; i++) {
            Check.due("amount " + i, x.ways(i, 0), want[i][0]);
            Check.due("steps " + i, x.ways(i, 1), want[i][1]);
            for (int k = 0; k < want[i][1]; k++) {
                Check.due("way " + i + " step " + k, x.ways(i, 10 + k), want[i][2 + k]);
            }
            Check.due("no step behind the last", x.ways(i, 10 + want[i][1]), -1);
            Check.due("no what 2", x.ways(i, 2), -1);
            Check.due("no what 9", x.ways(i, 9), -1);
            Check.due("no what -1", x.ways(i, -1), -1);
            Check.due("no what at all", x.ways(i, Integer.MIN_VALUE), -1);
            Check.due("no what so great", x.ways(i, Integer.MAX_VALUE), -1);
        }
        Check.due("no way 3", x.ways(3, 0), -1);
        Check.due("no way -2", x.ways(-2, 0), -1);
        // Of several as short, the one whose first step is earlier, then whose second is.
        GateFlow y = new GateFlow();
        y.gate(2, 11, 0, 1, 1);
        y.gate(1, 11, 0, 1, 1);
        y.gate(0, 2, 0, 1, 1);
        y.gate(0, 1, 0, 1, 1);
        y.gate(0, 2, 0, 1, 1);
        y.gate(2, 11, 0, 1, 1);
        int[][] order = {{2, 0}, {3, 1}, {4, 5}};
        for (int i = 0; i < 3; i++) {
            Check.due("first step of way " + i, y.ways(i, 10), order[i][0]);
            Check.due("second step of way " + i, y.ways(i, 11), order[i][1]);
        }
    }

    private static void waysBackward() {
        // 0-1-2-11 is the only one of three steps; then 0-3-2, back to 1, 4, 5, 11.
        GateFlow x = new GateFlow();
        int[][] gates = {{0, 1, 5}, {1, 2, 5}, {2, 11, 5}, {0, 3, 4}, {3, 2, 4}, {1, 4, 3}, {4, 11, 3}};
        for (int[] g : gates) {
            x.gate(g[0], g[1], 0, g[2], 1);
        }
        Check.due("most", x.most(), 8);
        // 0-1-4-11 is of three steps too, but 0>1 is full behind the first.
        int[][] want = {{5, 3, 0, 1, 2}, {3, 5, 3, 4, 101, 5, 6}};
        Check.due("ways", x.ways(-1, 0), 2);
        Check.due("ways told", x.told(8), 2);
        for (int i = 0; i < 2; i++) {
            Check.due("amount " + i, x.ways(i, 0), want[i][0]);
            Check.due("steps " + i, x.ways(i, 1), want[i][1]);
            for (int k = 0; k < want[i][1]; k++) {
                Check.due("way " + i + " step " + k, x.ways(i, 10 + k), want[i][2 + k]);
            }
        }
        Check.due("1>2 has given back", x.water(1), 2);
        // At 2, three gates lead there: 6>2 gives nothing back that helps, 3>2 has no water yet, 1>2 does.
        GateFlow y = new GateFlow();
        int[][] more = {{3, 2, 1}, {6, 2, 1}, {0, 6, 1}, {0, 1, 1}, {1, 2, 1}, {2, 11, 2}, {0, 3, 1}, {1, 4, 1}, {4, 5, 1}, {5, 11, 1}};
        for (int[] g : more) {
            y.gate(g[0], g[1], 0, g[2], 1);
        }
        int[][] due = {{1, 3, 2, 1, 5}, {1, 3, 3, 4, 5}, {1, 6, 6, 0, 104, 7, 8, 9}};
        Check.due("three ways", y.ways(-1, 0), 3);
        for (int i = 0; i < 3; i++) {
            Check.due("amount " + i, y.ways(i, 0), due[i][0]);
            Check.due("steps " + i, y.ways(i, 1), due[i][1]);
            for (int k = 0; k < due[i][1]; k++) {
                Check.due("way " + i + " step " + k, y.ways(i, 10 + k), due[i][2 + k]);
            }
        }
    }

    private static void promise12and13() {
        GateFlow x = new GateFlow();
        Check.due("no pushes", x.heights(-1, 0), 0);
        x.gate(0, 1, 0, 10, 1);
        x.gate(1, 11, 0, 6, 1);
        x.gate(0, 2, 0, 0, 1);
        Check.due("0>1", x.byHeights(0), 6);
        Check.due("1>11", x.byHeights(1), 6);
        Check.due("no such gate", x.byHeights(3), -1);
        Check.due("no gate -1", x.byHeights(-1), -1);
        Check.due("pushes", x.heights(-1, 0), 3);
        int[][] want = {{12, 0, 0}, {13, 2, 1}, {0, 0, 0}};
        for (int v = 0; v < 3; v++) {
            for (int what = 0; what < 3; what++) {
                Check.due("heights " + v + " " + what, x.heights(v, what), want[v][what]);
            }
        }
        Check.due("the sink stays low", x.heights(11, 0), 0);
        Check.due("no node 12", x.heights(12, 0), -1);
        Check.due("no node -2", x.heights(-2, 0), -1);
        Check.due("no what 3", x.heights(0, 3), -1);
        Check.due("no what -1", x.heights(0, -1), -1);
        Check.due("of -1 only what 0", x.heights(-1, 1), -1);
        Check.due("of -1 only what 0", x.heights(-1, 2), -1);
        x.turn(1, 0);
        Check.due("all goes back", x.byHeights(0), 0);
        Check.due("a push there, a push back", x.heights(-1, 0), 2);
        x.ends(1, 11);
        Check.due("the source is 12 high", x.heights(1, 0), 12);
        Check.due("the old one isn't", x.heights(0, 0), 0);
    }

    private static void heightsInTurns() {
        // 2 can't send on all, so 1 and 2 lift each other until it is back at the source.
        GateFlow x = new GateFlow();
        x.gate(0, 1, 0, 4, 1);
        x.gate(1, 2, 0, 4, 1);
        x.gate(2, 11, 0, 2, 1);
        Check.due("pushes", x.heights(-1, 0), 17);
        int[][] want = {{13, 7, 8}, {14, 8, 7}};
        for (int v = 1; v < 3; v++) {
            for (int what = 0; what < 3; what++) {
                Check.due("heights " + v + " " + what, x.heights(v, what), want[v - 1][what]);
            }
        }
        for (int g = 0; g < 3; g++) {
            Check.due("by heights " + g, x.byHeights(g), 2);
        }
    }

    private static void promise14to18() {
        GateFlow x = net();
        int full = Check.bits(2, 6, 8);
        Check.due("near", x.near(), Check.bits(0, 1, 2, 4));
        Check.due("far", x.far(), Check.bits(3, 11));
        Check.due("cut 0", x.cut(0), full);
        Check.due("cut 1", x.cut(1), full);
        Check.due("wide", x.wide(), full);
        Check.due("narrow", x.narrow(), full);
        Check.due("no cut 2", x.cut(2), -1);
        Check.due("no cut -1", x.cut(-1), -1);

        GateFlow y = new GateFlow();
        y.gate(0, 1, 0, 5, 1);
        y.gate(1, 11, 0, 5, 1);
        y.gate(0, 1, 0, 7, 1);
        y.gate(1, 11, 0, 7, 1);
        y.gate(0, 11, 0, 0, 1);
        y.gate(11, 0, 0, 9, 1);
        y.turn(2, 0);
        y.turn(3, 0);
        Check.due("near the source alone", y.near(), 1);
        Check.due("far the sink alone", y.far(), 1 << 11);
        Check.due("the cut at the source, open ones alone", y.cut(0), Check.bits(0, 4));
        Check.due("the cut at the sink, open ones alone", y.cut(1), Check.bits(1, 4));
        Check.due("neither of two helps alone; one straight does", y.wide(), Check.bits(4));
        Check.due("either of two hurts; one of no capacity doesn't", y.narrow(), Check.bits(0, 1));
        y.turn(2, 1);
        Check.due("near the node between", y.near(), Check.bits(0, 1));
        Check.due("wide then", y.wide(), Check.bits(1, 4));
        Check.due("narrow then", y.narrow(), Check.bits(1));
        y.ends(11, 0);
        Check.due("near from 11", y.near(), 1 << 11);
        Check.due("far to 0", y.far(), Check.bits(0));
        Check.due("narrow from 11 to 0", y.narrow(), Check.bits(5));

        // 0>1 is full, but what it gives can come by 0-2-1 as well: it isn't narrow.
        GateFlow z = new GateFlow();
        z.gate(0, 1, 0, 4, 1);
        z.gate(1, 11, 0, 4, 1);
        z.gate(0, 2, 0, 4, 1);
        z.gate(2, 1, 0, 4, 1);
        Check.due("full, but not narrow", z.narrow(), Check.bits(1));
        Check.due("backward steps are told in near", z.near(), Check.bits(0, 1, 2));
        afterDrop();
        ones();
        GateFlow none = new GateFlow();
        none.gate(0, 1, 0, 999, 1);
        Check.due("a way that ends: near", none.near(), 3);
        Check.due("a way that ends: cut 0", none.cut(0), 0);
        Check.due("a way that ends: wide", none.wide(), 0);
        none.gate(1, 11, 0, 999, 1);
        Check.due("999 may be wider: 0", none.more(0, 1), 0);
        none.widen(0, 998);
        Check.due("narrow at 998", none.narrow(), 1);
    }

    /** A gate that is gone is in no set any more. */
    private static void afterDrop() {
        GateFlow x = new GateFlow();
        x.gate(0, 11, 0, 5, 1);
        x.gate(0, 11, 0, 7, 1);
        Check.due("both: cut 0", x.cut(0), 3);
        Check.due("both: wide", x.wide(), 3);
        Check.due("both: narrow", x.narrow(), 3);
        x.drop();
        Check.due("one: cut 0", x.cut(0), 1);
        Check.due("one: cut 1", x.cut(1), 1);
        Check.due("one: wide", x.wide(), 1);
        Check.due("one: narrow", x.narrow(), 1);
        Check.due("one: most", x.most(), 5);
        Check.due("one: by heights", x.byHeights(0), 5);
        Check.due("one: pushes", x.heights(-1, 0), 1);
        Check.due("one: told", x.told(1) * 10000 + x.told(4) * 100 + x.told(5), 10505);
        Check.due("one: lines", x.lines(-1, 0), 1);
        Check.due("one: apart", x.apart(0), 1);
        Check.due("one: hours", x.hours(2), 10);
        Check.due("one: worst", x.worst(0) * 100 + x.worst(1), 5);
        Check.due("one: more", x.more(0, 3), 3);
    }

    /** Amounts of 1, by gates whose number is 0, forward and backward. */
    private static void ones() {
        GateFlow x = new GateFlow();
        int[][] gates = {{1, 2}, {0, 1}, {2, 11}, {0, 3}, {3, 2}, {1, 4}, {4, 5}, {5, 11}, {4, 6}};
        for (int[] g : gates) {
            x.gate(g[0], g[1], 0, 1, 1);
        }
        int[] way = {3, 4, 100, 5, 6, 7};
        Check.due("two ways", x.ways(-1, 0), 2);
        Check.due("the second is of six steps", x.ways(1, 1), 6);
        for (int k = 0; k < way.length; k++) {
            Check.due("its step " + k, x.ways(1, 10 + k), way[k]);
        }
        Check.due("all but 1>2 and 4>6 are full and narrow", x.narrow(), Check.bits(1, 2, 3, 4, 5, 6, 7));
        Check.due("one of 1 given by heights", x.byHeights(1) + x.byHeights(3), 2);
        // 0>1 and 2>11 are full; 2 is near by 0>3 and 3>2, and 1 by a step backward from 2.
        x.turn(5, 0);
        Check.due("one way then", x.most(), 1);
        Check.due("1 is near by a step backward", x.near(), Check.bits(0, 1, 2, 3));
        Check.due("2>11 alone is wide", x.wide(), Check.bits(2));
        Check.due("2>11 alone is narrow", x.narrow(), Check.bits(2));
        GateFlow y = new GateFlow();
        y.gate(1, 2, 0, 1, 1);
        y.gate(0, 1, 0, 1, 1);
        y.gate(1, 3, 0, 1, 1);
        y.gate(3, 11, 0, 1, 1);
        y.gate(2, 11, 0, 0, 1);
        // By heights 1 sends its one to 2 first; it comes back by 1>2 (gate 0), then goes by 3.
        Check.due("2 gives it back", y.byHeights(0), 0);
        Check.due("3 gets it", y.byHeights(2), 1);
        Check.due("2 is lifted once", y.heights(2, 1), 1);
        Check.due("2 is 2 high", y.heights(2, 0), 2);
    }

    private static void promise19() {
        GateFlow x = net();
        Check.due("1>3 by 1", x.more(2, 1), 1);
        Check.due("1>3 by 5: 3>11 lets one more", x.more(2, 5), 1);
        Check.due("4>11 by 1", x.more(8, 1), 1);
        Check.due("4>11 by 2", x.more(8, 2), 2);
        Check.due("4>11 by 3: 0>2 lets two more", x.more(8, 3), 2);
        Check.due("4>11 by 999", x.more(8, 999), 2);
        Check.due("0>1 by 999", x.more(0, 999), 0);
        Check.due("by 0", x.more(8, 0), 0);
        Check.due("by -1", x.more(8, -1), -2);
        Check.due("by 1000", x.more(8, 1000), -2);
        Check.due("no gate", x.more(9, 1), -1);
        Check.due("no gate, ahead of BAD", x.more(-1, -1), -1);
        x.turn(8, 0);
        Check.due("it is shut", x.more(8, 1), -3);
        Check.due("BAD ahead of STATE", x.more(8, 1000), -2);
        Check.due("nothing changed", x.of(8, 3), 4);
        GateFlow y = new GateFlow();
        y.gate(0, 11, 0, 999, 1);
        Check.due("above 999", y.more(0, 999), 999);
    }

    private static void promise20() {
        GateFlow x = net();
        Check.due("none", x.loss(0), 0);
        Check.due("0>1: 0>2 brings 13 then, 4 of it by 2>1", x.loss(1), 10);
        Check.due("1>3", x.loss(4), 12);
        Check.due("2>1 has no water", x.loss(8), 0);
        Check.due("both to the sink", x.loss(Check.bits(7, 8)), 23);
        Check.due("all", x.loss((1 << 9) - 1), 23);
        Check.due("one more than there are", x.loss(1 << 9), -2);
        Check.due("one of them and one more", x.loss(1 | 1 << 30), -2);
        Check.due("below 0", x.loss(-1), -2);
        Check.due("far below 0", x.loss(Integer.MIN_VALUE), -2);
        Check.due("none is shut by it", x.told(1), 9);
        GateFlow y = new GateFlow();
        Check.due("none of none", y.loss(0), 0);
        Check.due("one of none", y.loss(1), -2);
        for (int g = 0; g < 30; g++) {
            y.gate(0, 11, 0, 1, 1);
        }
        Check.due("all of 30", y.loss((1 << 30) - 1), 30);
        Check.due("a 31st", y.loss(1 << 30), -2);
    }

    private static void promise21() {
        GateFlow x = new GateFlow();
        for (int what = 0; what < 4; what++) {
            Check.due("no gates", x.worst(what), -5);
        }
        Check.due("NONE ahead of -5", x.worst(4), -1);
        Check.due("no what -1", x.worst(-1), -1);
        x.gate(0, 11, 0, 0, 1);
        Check.due("one gate without water", x.worst(0), 0);
        Check.due("its loss", x.worst(1), 0);
        Check.due("no two gates", x.worst(2), -5);
        Check.due("no loss of two gates", x.worst(3), -5);
        x.gate(0, 1, 0, 4, 1);
        x.gate(0, 1, 0, 6, 1);
        x.gate(1, 11, 0, 9, 1);
        x.gate(0, 11, 0, 9, 1);
        Check.due("1>11, of two the least", x.worst(0), 3);
        Check.due("its loss", x.worst(1), 9);
        Check.due("1>11 and 0>11", x.worst(2), 304);
        Check.due("their loss", x.worst(3), 18);
        x.turn(4, 0);
        Check.due("the worst with 0>11 shut", x.worst(0), 3);
        Check.due("two: 0 and 3 cost all", x.worst(2), 3);
        Check.due("their loss is all", x.worst(3), 9);
        x.turn(3, 0);
        Check.due("nothing flows: the first", x.worst(0), 0);
        Check.due("nothing flows: the first two", x.worst(2), 1);
        Check.due("nothing flows: no loss", x.worst(3), 0);
    }

    private static void promise22() {
        GateFlow x = ringNet();
        // The ring is met on the first walk: 0-1-2-1.
        int[][] want = {{1, 2, 1, 2, 3}, {1, 3, 0, 1, 4, 7}, {1, 3, 0, 6, 0, 5}};
        Check.due("how many", x.lines(-1, 0), 3);
        Check.due("lines alone", x.told(9), 2);
        Check.due("rings alone", x.told(10), 1);
        for (int i = 0; i < 3; i++) {
            for (int what = 0; what < 3; what++) {
                Check.due("lines " + i + " " + what, x.lines(i, what), want[i][what]);
            }
            for (int k = 0; k < want[i][1]; k++) {
                Check.due("lines " + i + " gate " + k, x.lines(i, 10 + k), want[i][3 + k]);
            }
            Check.due("no gate behind the last", x.lines(i, 10 + want[i][1]), -1);
            Check.due("no what 3", x.lines(i, 3), -1);
            Check.due("no what 9", x.lines(i, 9), -1);
            Check.due("no what -1", x.lines(i, -1), -1);
            Check.due("no what so great", x.lines(i, Integer.MAX_VALUE), -1);
        }
        Check.due("no line 3", x.lines(3, 0), -1);
        Check.due("no line -2", x.lines(-2, 0), -1);
        GateFlow y = net();
        // By the gate of the least number that has water: 12 by 0-2-7, then 7 by 1-5-6-7, then 4 by 1-5-8.
        int[][] lines = {{12, 3, 0, 0, 2, 7}, {7, 4, 0, 1, 5, 6, 7}, {4, 3, 0, 1, 5, 8}};
        Check.due("how many lines", y.lines(-1, 0), 3);
        for (int i = 0; i < 3; i++) {
            Check.due("how much " + i, y.lines(i, 0), lines[i][0]);
            for (int k = 0; k < lines[i][1]; k++) {
                Check.due("gate " + k, y.lines(i, 10 + k), lines[i][3 + k]);
            }
        }
        Check.due("no rings", y.told(10), 0);
    }
}
