/** Promises 28 to 36: the tape, books, conditions, the paper, what is told. */
final class TextsTest {
    public static void main(String[] args) {
        promise28and29();
        promise30();
        bookFaults();
        fullBooks();
        promise31();
        conditionFaults();
        promise32();
        promise33();
        promise34and35();
        promise36();
        Check.end("TextsTest");
    }

    private static void promise28and29() {
        GateFlow x = new GateFlow();
        Check.due("empty already", x.clear(), 0);
        Check.due("byte 1", x.feed(1), 1);
        Check.due("byte 127", x.feed(127), 2);
        int[] bad = {0, 128, -1, 256 + 65, Integer.MAX_VALUE, Integer.MIN_VALUE};
        for (int b : bad) {
            Check.due("no byte " + b, x.feed(b), -2);
        }
        Check.due("it has two", x.told(6), 2);
        Check.due("it had two", x.clear(), 2);
        Check.due("it has none", x.told(6), 0);
        for (int i = 0; i < 90; i++) {
            Check.due("byte " + i, x.feed('!'), i + 1);
        }
        Check.due("no 91st", x.feed('!'), -4);
        Check.due("BAD ahead of FULL", x.feed(0), -2);
        Check.due("90 times !", x.pick(), -190);
        Check.due("empty then", x.clear(), 0);
    }

    private static void promise30() {
        GateFlow x = new GateFlow();
        Check.due("one gate", Check.book(x, "0>1:5"), 1);
        Check.due("three gates", Check.book(x, "011>10:2-5@2x;3>4:007;000>001:0-0@003"), 3);
        int[][] want = {{0, 1, 0, 5, 1, 1}, {11, 10, 2, 5, 2, 0}, {3, 4, 0, 7, 1, 1}, {0, 1, 0, 0, 3, 1}};
        for (int g = 0; g < 4; g++) {
            for (int what = 0; what < 6; what++) {
                Check.due("gate " + g + " " + what, x.of(g, what), want[g][what]);
            }
        }
        Check.due("they come behind those that are there", x.told(0), 4);
        Check.due("the tape is empty", x.told(6), 0);
        GateFlow y = new GateFlow();
        Check.due("nothing yet", y.most(), 0);
        Check.due("one straight", Check.book(y, "0>11:999"), 1);
        Check.due("MOST follows", y.most(), 999);
        Check.due("LEAST as great as CAPACITY", Check.book(y, "0>11:8-8"), 1);
        Check.due("SMALLEST follows", y.bound(1), 8);
    }

    private static void bookFault(GateFlow x, String text, int place) {
        int before = x.told(0);
        Check.due("read " + text, Check.book(x, text), -100 - place);
        Check.due("the tape is empty behind " + text, x.told(6), 0);
        Check.due("nothing came of " + text, x.told(0), before);
    }

    private static void bookFaults() {
        Object[][] faults = {
            {"", 0}, {"0", 1}, {"0>", 2}, {"0>1", 3}, {"0>1:", 4}, {"0>1:5-", 6}, {"0>1:5@", 6}, {"0>1:5;", 6},
            {"x", 0}, {">", 0}, {"0:1", 1}, {"0>:", 2}, {"0>1;", 3}, {"0>1:x", 4}, {"0>1:-5", 4}, {"0>1:5 ", 5},
            {"12>1:5", 0}, {"12", 0}, {"999x", 0}, {"1234>1:5", 0}, {"0001>1:5", 3}, {"0>12:5", 2}, {"0>12", 2},
            {"3>3:5", 2}, {"3>003", 2}, {"3>3x", 2}, {"0>1:1000", 7}, {"0>1:5-4", 6}, {"0>1:5-4x", 6}, {"0>1:5-1000", 9},
            {"0>1:5-05", -1}, {"0>1:5@0", 6}, {"0>1:5@4", 6}, {"0>1:5@12", 6}, {"0>1:5@0001", 6}, {"0>1:5@3@3", 7},
            {"0>1:5xx", 6}, {"0>1:5x@2", 6}, {"0>1:5@2-3", 7}, {"0>1:5;;", 6}, {"0>1:5;1", 7}, {"0>1:5;1>1:5", 8},
            {"0>1:5-6-7", 7}, {"0>1:1;2>3:2;4>4:1", 14}, {"0>1:5,", 5}, {"(0>1:5)", 0}, {"0>1:5X", 5}
        };
        for (Object[] f : faults) {
            GateFlow x = new GateFlow();
            x.gate(5, 6, 0, 1, 1);
            int place = (Integer) f[1];
            if (place < 0) {
                Check.due("read " + f[0], Check.book(x, (String) f[0]), 1);
            } else {
                bookFault(x, (String) f[0], place);
            }
        }
        // What the places behind the last gate held before shows nowhere.
        GateFlow x = new GateFlow();
        bookFault(x, "7>8:3-9@2x;1>1:5", 13);
        Check.due("no gate 0", x.of(0, 0), -1);
        x.gate(0, 11, 0, 6, 1);
        Check.due("it is open", x.of(0, 5), 1);
        Check.due("MOST", x.most(), 6);
    }

    private static void fullBooks() {
        GateFlow x = new GateFlow();
        for (int g = 0; g < 28; g++) {
            x.gate(0, 11, 0, 1, 1);
        }
        bookFault(x, "0>1:1;0>1:2;0>1:3", 12);
        bookFault(x, "0>1:1;0>1:2;", 12);
        bookFault(x, "0>1:1;0>1:2;1>1", 12);
        bookFault(x, "0>1:1;0>0:2;0>1:3", 8);
        Check.due("two fit", Check.book(x, "0>1:1;0>1:2"), 2);
        bookFault(x, "0>1:1", 0);
        bookFault(x, "x", 0);
        bookFault(x, "", 0);
        Check.due("30 there are", x.told(0), 30);
    }

    /** 0: 0>1 of 10, LEAST 2, DELAY 1; 1: 1>11 of 6, DELAY 3; 2: 0>2 of 4; 3: 2>11 of 9, shut. */
    private static GateFlow four() {
        GateFlow x = new GateFlow();
        x.gate(0, 1, 2, 10, 1);
        x.gate(1, 11, 0, 6, 3);
        x.gate(0, 2, 0, 4, 2);
        x.gate(2, 11, 1, 9, 1);
        x.turn(3, 0);
        return x;
    }

    private static void promise31() {
        Object[][] picks = {
            {"from=0", 5}, {"to=11", 10}, {"cap>5", 11}, {"cap<6", 4}, {"cap=9", 8}, {"least>0", 9}, {"delay=1", 9},
            {"delay>1", 6}, {"water=6", 3}, {"water>0", 3}, {"room=4", 5}, {"room=0", 2}, {"room>4", 8}, {"shut=1", 8},
            {"shut=0", 7}, {"shut<1", 7}, {"from=999", 0}, {"from<12", 15}, {"cap=009", 8}, {"cap<10", 14}, {"cap>10", 0},
            {"!from=0", 10}, {"!!from=0", 5}, {"!!!from=0", 10}, {"from=0&cap>5", 1}, {"from=0|cap>5", 15},
            {"cap=4|from=0&to=1", 5}, {"from=0&to=1|cap=4", 5}, {"(cap=4|from=0)&to=1", 1}, {"to=1&(cap=4|from=0)", 1},
            {"!from=0&cap>5", 10}, {"!(from=0&cap>5)", 14}, {"!(from=0|cap>5)", 0}, {"!(!from=0)", 5},
            {"(((((cap=4)))))", 4}, {"(cap=4)|(cap=9)|(cap=6)", 14}, {"(((((cap=4)))))|(((((cap=6)))))", 6},
            {"from=0&!(to=1)&cap<5", 4}, {"!cap=4|cap=4", 15}, {"cap=4&cap=9", 0}, {"cap=4&cap=9|cap=6", 2}
        };
        for (Object[] p : picks) {
            GateFlow x = four();
            Check.due("pick " + p[0], Check.pick(x, (String) p[0]), (Integer) p[1]);
            Check.due("the tape is empty", x.told(6), 0);
            Check.due("nothing changed", x.told(1), 3);
        }
        GateFlow y = new GateFlow();
        Check.due("of no gates none", Check.pick(y, "!cap=1000".substring(0, 8)), 0);
        for (int g = 0; g < 30; g++) {
            y.gate(0, 1, 0, g, 1);
        }
        Check.due("of 30 all", Check.pick(y, "!cap>100"), (1 << 30) - 1);
        GateFlow z = four();
        z.turn(3, 1);
        Check.due("water follows", Check.pick(z, "water=4"), Check.bits(2, 3));
        z.ends(11, 0);
        Check.due("water follows the ends", Check.pick(z, "water>0"), 0);
    }

    private static void conditionFaults() {
        Object[][] faults = {
            {"", 0}, {"cap", 3}, {"cap>", 4}, {"cap>1&", 6}, {"cap>1|", 6}, {"!", 1}, {"(", 1}, {"(cap>1", 6}, {"(cap>1&", 7},
            {")", 0}, {"&", 0}, {"|", 0}, {"<", 0}, {"=1", 0}, {"5", 0}, {"caps<1", 0}, {"caps", 0}, {"ca", 0}, {"capz>1", 0}, {"capa>1", 0}, {"aap>1", 0}, {"zap>1", 0}, {"coom>1", 0},
            {"cap`1", 3}, {"cap{1", 3}, {"cap>/", 4}, {"cap>:", 4}, {"x>1", 0},
            {"cap>1&capp", 6}, {"Cap>1", 0}, {"cap>1000", 7}, {"cap>0000", 7}, {"cap>-1", 4}, {"cap>a", 4}, {"cap1", 3},
            {"cap!1", 3}, {"cap>=1", 4}, {"cap==1", 4}, {"cap>1)", 5}, {"(cap>1))", 7}, {"cap>1 ", 5}, {"cap>1!", 5},
            {"cap>1(", 5}, {"cap>1cap", 5}, {"()", 1}, {"!)", 1}, {"((((((cap>1))))))", 5}, {"(((((!(cap>1))))))", 6},
            {"((((((", 5}, {"(((((cap>1&(", 11}, {"((((((x", 5}, {"cap>1&&cap>1", 6}, {"cap>1||cap>1", 6}, {"cap>1;", 5},
            {"cap>1&!", 7}, {"from=0&to=1&room<5&shutt=1", 19}, {"water>0&roo", 8}, {"capfrom>1", 0}, {"to=1&\u0001", 5}
        };
        for (Object[] f : faults) {
            GateFlow x = four();
            String text = (String) f[0];
            int due = -100 - (Integer) f[1];
            Check.due("pick " + text, Check.pick(x, text), due);
            Check.due("the tape is empty", x.told(6), 0);
            Check.feed(x, text);
            Check.due("many " + text, x.many(), due);
            Check.due("the tape is empty", x.told(6), 0);
            Check.feed(x, text);
            Check.due("shutAll " + text, x.shutAll(0), due);
            Check.due("the tape is empty", x.told(6), 0);
            Check.due("nothing changed", x.told(1), 3);
        }
    }

    private static void promise32() {
        GateFlow x = four();
        String[] texts = {"from=0", "from<12", "from=9", "water=6|shut=1"};
        int[] want = {2, 4, 0, 3};
        for (int i = 0; i < texts.length; i++) {
            Check.feed(x, texts[i]);
            Check.due("many " + texts[i], x.many(), want[i]);
            Check.due("the tape is empty", x.told(6), 0);
        }
        Check.due("an empty one", x.many(), -100);
    }

    private static void promise33() {
        GateFlow x = four();
        Check.feed(x, "cap>5");
        Check.due("no open 2", x.shutAll(2), -1);
        Check.due("no open -1", x.shutAll(-1), -1);
        Check.due("the tape stays", x.told(6), 5);
        Check.due("two of three were open", x.shutAll(0), 2);
        Check.due("the tape is empty", x.told(6), 0);
        Check.due("0>2 is open", x.told(1), 1);
        Check.due("MOST follows", x.most(), 0);
        Check.feed(x, "to=11");
        Check.due("two open", x.shutAll(1), 2);
        Check.due("MOST follows", x.most(), 4);
        // By what is ahead of it: while 0>2 is shut by it, 2>11 has its water still.
        Check.feed(x, "water=4");
        Check.due("both that have water", x.shutAll(0), 2);
        Check.due("1>11 is left", x.of(1, 5) * 10 + x.told(1), 11);
        Check.feed(x, "shut=1");
        Check.due("all shut ones open", x.shutAll(1), 3);
        Check.feed(x, "shut=1");
        Check.due("there is none", x.shutAll(1), 0);
        Check.due("an empty one", x.shutAll(1), -100);
    }

    private static void promise34and35() {
        GateFlow x = new GateFlow();
        Check.due("nothing at first", x.paper(0), -1);
        Check.due("no gates", x.spell(), 0);
        x.gate(0, 1, 0, 0, 1);
        Check.due("the paper is the latest one still", x.told(7), 0);
        Check.due("6 bytes", x.spell(), 5);
        Check.dueText("spelled", Check.paper(x), "0>1:0");
        x.gate(11, 10, 1, 10, 2);
        x.gate(10, 9, 99, 100, 3);
        x.gate(9, 0, 100, 909, 1);
        x.turn(0, 0);
        x.turn(2, 0);
        String want = "0>1:0x;11>10:1-10@2;10>9:99-100@3x;9>0:100-909";
        Check.due("spell", x.spell(), want.length());
        Check.dueText("spelled", Check.paper(x), want);
        Check.due("no byte -1", x.paper(-1), -1);
        Check.due("no byte behind", x.paper(want.length()), -1);
        Check.due("last byte", x.paper(want.length() - 1), '9');
        x.drop();
        x.widen(0, 7);
        Check.dueText("it stays as it was", Check.paper(x), want);
        Check.due("book read", Check.book(x, "1>2:3"), 1);
        Check.dueText("it stays as it was", Check.paper(x), want);

        GateFlow y = new GateFlow();
        StringBuilder all = new StringBuilder();
        for (int g = 0; g < 30; g++) {
            y.gate(11, 10, 999, 999, 3);
            y.turn(g, 0);
            all.append(g == 0 ? "" : ";").append("11>10:999-999@3x");
        }
        Check.due("the longest", y.spell(), 30 * 17 - 1);
        Check.due("the longest is told", y.told(7), 509);
        Check.due("its first byte", y.paper(0), '1');
        Check.due("its last byte", y.paper(508), 'x');
        Check.due("no byte behind", y.paper(509), -1);
        GateFlow z = new GateFlow();
        for (int g = 0; g < 5; g++) {
            z.gate(11, 10, 999, 999, 3);
            z.turn(g, 0);
        }
        z.spell();
        String text = Check.paper(z);
        Check.dueText("five of them", text, all.substring(0, text.length()));
        Check.due("a spelled one can be read", Check.book(z, text), 5);
    }

    private static void promise36() {
        GateFlow x = FlowTest.ringNet();
        x.gate(11, 0, 0, 9, 1);
        x.gate(0, 4, 0, 40, 1);
        x.gate(4, 11, 0, 50, 1);
        x.turn(9, 0);
        x.turn(10, 0);
        Check.feed(x, "abc");
        x.spell();
        int[] want = {11, 9, 0, 11, 3, 2, 3, x.spell(), 2, 2, 1};
        for (int what = 0; what < want.length; what++) {
            Check.due("told " + what, x.told(what), want[what]);
        }
        Check.due("no what 11", x.told(11), -1);
        Check.due("no what -1", x.told(-1), -1);
        x.turn(9, 1);
        x.turn(10, 1);
        Check.due("from the source", x.told(4), 43);
        Check.due("to the sink", x.told(5), 52);
        Check.due("one way more", x.told(8), 3);
        Check.due("one line more", x.told(9), 3);
        x.ends(3, 2);
        Check.due("source", x.told(2), 3);
        Check.due("sink", x.told(3), 2);
        Check.due("from 3", x.told(4), 1);
        Check.due("to 2", x.told(5), 4);
    }
}
