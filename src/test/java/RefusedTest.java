import java.util.Arrays;

/**
 * "What is answered so changes nothing; what is asked changes nothing but THE PAPER": each such call is made on one
 * of two objects with the same past; then all that can be seen of both is held against one another.
 */
final class RefusedTest {
    private static final int FRESH = 0, MADE = 1, FULL = 2;

    public static void main(String[] args) {
        sameToBeginWith();
        refusedOfGates();
        refusedOfFlows();
        refusedOfTexts();
        refusedOfLists();
        asked();
        Check.end("RefusedTest");
    }

    private static GateFlow object(int state) {
        GateFlow x = new GateFlow();
        if (state == MADE) {
            gates(x, new int[][] {{5, 6, 0, 1, 1}, {6, 7, 0, 2, 2}});
            x.ends(5, 7);
            x.image();
            x.drop();
            gates(x, new int[][] {{0, 1, 2, 9, 1}, {1, 11, 0, 6, 3}, {0, 11, 3, 3, 2}, {1, 2, 0, 4, 1}});
            x.ends(0, 11);
            x.turn(3, 0);
            x.spell();
            x.widen(1, 8);
            feed(x, "cap>5");
        } else if (state == FULL) {
            for (int g = 0; g < 30; g++) {
                x.gate(g % 3, g % 3 == 2 ? 11 : g % 3 + 1, 0, 5 + g, 1 + g % 3);
            }
            feed(x, "!".repeat(85) + "cap>9");
        }
        if (state != FRESH) {
            x.list(0, 6);
            x.set(0, 1, 5);
            x.set(0, 5, -7);
            x.list(1, 0);
            x.list(3, 40);
            x.set(3, 39, 8);
        }
        return x;
    }

    private static void gates(GateFlow x, int[][] gates) {
        for (int[] g : gates) {
            x.gate(g[0], g[1], g[2], g[3], g[4]);
        }
    }

    private static void feed(GateFlow x, String text) {
        for (int i = 0; i < text.length(); i++) {
            x.feed(text.charAt(i));
        }
    }

    /** All that can be seen, in fewer calls than an object is for; the tape and the image are used up by it. */
    private static String seen(GateFlow x) {
        StringBuilder all = new StringBuilder("told");
        for (int what = 0; what <= 10; what++) {
            all.append(' ').append(x.told(what));
        }
        gatesSeen(x, all.append(" gates"));
        int size = x.told(7);
        all.append(" paper ").append(size);
        for (int i = 0; i < size && i < 60; i++) {
            all.append(' ').append(x.paper(i));
        }
        all.append(" lists");
        for (int l = 0; l < 4; l++) {
            int[] places = {0, 1, 2, 3, 4, 5, 6, 39};
            for (int i : places) {
                all.append(' ').append(x.get(l, i));
            }
            all.append(" held ").append(x.judge(l, 0));
        }
        all.append(" flows ").append(x.most()).append(' ').append(x.heights(-1, 0)).append(' ').append(x.bound(0)).append(' ').append(x.bound(1));
        all.append(" tape ").append(x.pick());
        int image = x.undo();
        all.append(" image ").append(image);
        if (image >= 0) {
            gatesSeen(x, all.append(" gates ").append(x.told(2)).append(' ').append(x.told(3)));
        }
        return all.toString();
    }

    private static void gatesSeen(GateFlow x, StringBuilder all) {
        int n = x.told(0);
        for (int g = 0; g < n; g++) {
            for (int what = 0; what < 6; what++) {
                all.append(' ').append(x.of(g, what));
            }
        }
    }

    private static void sameToBeginWith() {
        for (int state = FRESH; state <= FULL; state++) {
            Check.dueText("two objects with the same past", seen(object(state)), seen(object(state)));
        }
        String[] told = {seen(object(FRESH)), seen(object(MADE)), seen(object(FULL))};
        Check.due("three objects with other pasts", told[0].equals(told[1]) || told[1].equals(told[2]) ? 1 : 0, 0);
    }

    /** "of 9 0 = -1": the answer, and that nothing came of it. */
    private static void refused(int state, String... lines) {
        for (String line : lines) {
            String[] parts = line.split(" = ");
            String[] words = parts[0].split(" ");
            int[] given = new int[words.length - 1];
            for (int k = 0; k < given.length; k++) {
                given[k] = words[k + 1].equals("MAX") ? Integer.MAX_VALUE : words[k + 1].equals("MIN") ? Integer.MIN_VALUE : Integer.parseInt(words[k + 1]);
            }
            GateFlow x = object(state);
            int got = Script.call(x, words[0], given);
            if (parts.length > 1) {
                Check.due("state " + state + ": " + words[0] + Arrays.toString(given), got, Integer.parseInt(parts[1]));
            }
            Check.dueText("state " + state + ": all behind " + words[0] + Arrays.toString(given), seen(x), seen(object(state)));
        }
    }

    private static void refusedOfGates() {
        refused(FRESH, "of 0 0 = -1", "widen 0 1 = -1", "bind 0 0 = -1", "turn 0 0 = -1", "drop = -3", "ends 3 3 = -1", "undo = -3",
            "gate 0 0 0 1 1 = -1", "gate 0 1 0 1 0 = -2", "two 0 0 = -1");
        refused(MADE, "gate 12 1 0 1 1 = -1", "gate 0 -1 0 1 1 = -1", "gate 4 4 0 1 1 = -1", "gate 0 1 2 1 1 = -2", "gate 0 1 -1 1 1 = -2",
            "gate 0 1 0 1000 1 = -2", "gate 0 1 0 -1 1 = -2", "gate 0 1 0 1 0 = -2", "gate 0 1 0 1 4 = -2");
        refused(MADE, "of 5 0 = -1", "of 0 6 = -1", "widen 5 5 = -1", "widen -1 5 = -1", "widen 1 1 = -2", "widen 1 1000 = -2", "widen 1 -1 = -2",
            "widen 3 2 = -2", "bind 5 0 = -1", "bind 1 9 = -2", "bind 1 -1 = -2", "bind 1 MIN = -2", "turn 5 0 = -1", "turn -1 1 = -1",
            "turn 0 2 = -1", "turn 3 -1 = -1", "ends 12 0 = -1", "ends 0 12 = -1", "ends -1 3 = -1", "ends 3 -1 = -1", "ends 4 4 = -1",
            "two 9 0 = -1", "two 0 4 = -1", "two -2 0 = -1");
        refused(FULL, "gate 0 1 0 1 1 = -4", "gate 0 1 0 1000 1 = -2", "gate 0 0 0 1 1 = -1", "undo = -3", "widen 30 1 = -1", "of 30 0 = -1");
    }

    private static void refusedOfFlows() {
        refused(FRESH, "water 0 = -1", "ways 0 0 = -1", "byHeights 0 = -1", "worst 0 = -5", "worst 2 = -5", "lines 0 0 = -1", "loss 1 = -2", "more 0 1 = -1");
        refused(MADE, "water 5 = -1", "water -1 = -1", "ways 9 0 = -1", "ways 0 2 = -1", "ways -2 0 = -1", "byHeights 5 = -1", "heights 12 0 = -1",
            "heights 0 3 = -1", "heights -1 1 = -1", "cut 2 = -1", "cut -1 = -1", "more 5 1 = -1", "more 0 1000 = -2", "more 0 -1 = -2",
            "more 3 1 = -3", "loss -1 = -2", "loss 32 = -2", "worst 4 = -1", "lines 9 0 = -1", "lines 0 3 = -1", "bound 2 = -1", "apart 2 = -1",
            "hours 0 = -2", "hours 9 = -2", "reach 12 0 = -1", "reach 0 21 = -2", "reach 0 -1 = -2", "told 11 = -1", "told -1 = -1");
        refused(FULL, "loss 1073741824 = -2", "water 30 = -1", "byHeights 30 = -1", "more 30 0 = -1", "ways 30 0 = -1", "lines 30 0 = -1");
    }

    private static void refusedOfTexts() {
        refused(FRESH, "feed 0 = -2", "feed 128 = -2", "shutAll 2 = -1", "shutAll -1 = -1", "paper 0 = -1", "paper -1 = -1", "clear = 0",
            "read = -100", "pick = -100", "many = -100", "shutAll 0 = -100");
        refused(MADE, "feed 0 = -2", "feed 128 = -2", "feed -1 = -2", "feed MAX = -2", "shutAll 2 = -1", "shutAll -1 = -1", "paper 999 = -1", "paper -1 = -1");
        refused(FULL, "feed 33 = -4", "feed 127 = -4", "feed 1 = -4", "feed 0 = -2", "feed 128 = -2", "shutAll 2 = -1");
        // A text with a fault does nothing; but the tape is empty then.
        String[] faults = {"read", "pick", "many", "shutAll"};
        String[] texts = {"0>1:1;3>4:2;5>5:1", "cap>1&", "(cap>1", "cap>1)"};
        for (int k = 0; k < 4; k++) {
            GateFlow x = object(MADE), y = object(MADE);
            x.clear();
            y.clear();
            feed(x, texts[k]);
            int got = k < 3 ? Script.call(x, faults[k]) : Script.call(x, faults[k], 0);
            Check.due("the fault of " + texts[k], got, k == 0 ? -114 : k == 3 ? -105 : -106);
            Check.dueText("all behind " + faults[k] + " of " + texts[k], seen(x), seen(y));
        }
    }

    private static void refusedOfLists() {
        refused(FRESH, "list 4 1 = -1", "list -1 1 = -1", "list 0 41 = -2", "list 0 -1 = -14", "set 0 0 1 = -11", "lay 0 0 0 = -11", "judge 0 0 = -11",
            "get 0 0 = -2000000000");
        refused(MADE, "list 4 1 = -1", "list 0 41 = -2", "list 0 -1 = -14", "list 3 MAX = -2", "list 3 MIN = -14", "set 4 0 1 = -1", "set -1 0 1 = -1",
            "set 2 0 1 = -11", "set 1 0 1 = -13", "set 0 6 1 = -13", "set 0 -1 1 = -13", "set 3 40 1 = -13", "set 3 -1 1 = -13", "set 0 MAX 1 = -13",
            "lay 4 0 0 = -1", "lay 0 0 2 = -1", "lay 0 0 -1 = -1", "lay 2 0 0 = -11", "lay 1 0 0 = -13", "lay 0 6 0 = -13", "lay 0 -1 0 = -13",
            "lay 3 -1 1 = -13", "lay 3 40 1 = -13", "lay 0 MAX 1 = -13", "lay 0 MIN 1 = -13", "judge 4 0 = -1", "judge 2 0 = -11", "judge 0 -1 = -13",
            "judge 0 6 = -5", "get 4 0 = -2000000000", "get 2 0 = -2000000000", "get 0 6 = -2000000000");
    }

    private static void asked() {
        String[] asked = {"of 0 3", "most", "water 0", "ways -1 0", "ways 0 0", "ways 0 10", "byHeights 1", "heights 1 0", "heights -1 0", "near", "far",
            "cut 0", "cut 1", "wide", "narrow", "more 0 5", "more 1 999", "loss 0", "loss 1", "worst 0", "worst 1", "worst 2", "worst 3",
            "lines -1 0", "lines 0 0", "bound 0", "bound 1", "apart 0", "apart 1", "hours 1", "hours 8", "two -1 0", "two 0 3", "reach 0 20", "paper 0",
            "told 0", "told 8", "told 9", "told 10", "get 0 1", "judge 0 0", "judge 3 1"};
        refused(FRESH, asked);
        refused(MADE, asked);
        refused(FULL, asked);
        refused(FULL, "loss 1073741823", "loss 3");
        for (int state = FRESH; state <= FULL; state++) {
            Check.dueText("pick changes THE TAPE alone, state " + state, behind(state, "pick"), behind(state, "clear"));
            Check.dueText("many changes THE TAPE alone, state " + state, behind(state, "many"), behind(state, "clear"));
            GateFlow x = object(state);
            int size = x.spell();
            String paper = " paper " + size;
            String all = seen(x), was = seen(object(state));
            Check.due("spell's paper is there, state " + state, all.contains(paper) ? 1 : 0, 1);
            Check.dueText("spell changes THE PAPER alone, state " + state, withoutPaper(all), withoutPaper(was));
        }
    }

    private static String behind(int state, String call) {
        GateFlow x = object(state);
        Script.call(x, call);
        return seen(x);
    }

    private static String withoutPaper(String all) {
        String told = all.substring(0, all.indexOf(" gates"));
        String[] words = told.split(" ");
        words[8] = "-";
        return String.join(" ", words) + all.substring(all.indexOf(" gates"), all.indexOf(" paper")) + all.substring(all.indexOf(" lists"));
    }
}
