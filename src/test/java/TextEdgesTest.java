/** The sentences of the document that name a boundary: texts (section 3); promises 28 to 36. */
final class TextEdgesTest {
    private static final String[] READERS = {"read", "pick", "many", "shutAll 0", "shutAll 1"};

    public static void main(String[] args) {
        tape();
        figures();
        bookForm();
        bookNumbers();
        noRoom();
        conditionForm();
        readAnew();
        words();
        brackets();
        nothingDone();
        shutAll();
        spelled();
        paper();
        told();
        Check.end("TextEdgesTest");
    }

    private static String times(String text, int n) {
        StringBuilder all = new StringBuilder();
        for (int i = 0; i < n; i++) {
            all.append(text);
        }
        return all.toString();
    }

    private static void tape() {
        Script.run("feed: a byte (1 .. 127). BAD", "feed 0 = -2", "feed 1 = 1", "feed 127 = 2", "feed 128 = -2", "feed -1 = -2",
            "feed 256 = -2", "feed 321 = -2", "feed 65601 = -2", "feed MAX = -2", "feed MIN = -2", "told 6 = 2", "clear = 2");
        Script.run("clear: how many bytes it had", "clear = 0", "clear = 0", "feed 99 = 1", "clear = 1", "told 6 = 0", "clear = 0",
            "pick `cap>1` = 0", "clear = 0");
        GateFlow x = new GateFlow();
        for (int i = 0; i < 90; i++) {
            Check.due("THE TAPE holds 0 .. 90 bytes: byte " + i, x.feed('!'), i + 1);
        }
        Script.on(x, "FULL; BAD is ahead of it", "feed 33 = -4", "feed 0 = -2", "feed 128 = -2", "feed 33 = -4", "told 6 = 90", "clear = 90",
            "feed 33 = 1", "clear = 1", "pick = -100");
        Script.run("90 bytes are read to the last", "gate 0 1 0 5 1 = 0", "pick `" + times("!", 85) + "cap>4` = 0",
            "pick `" + times("!", 84) + "cap>4` = 1", "pick `" + times("!", 90) + "` = -190", "told 6 = 0");
        Script.run("90 bytes of a BOOK", "read `" + times("0>1:1;", 14) + "0>1:01` = 15", "read `" + times("0>1:1;", 14) + "0>1:1;` = -190",
            "told 0 = 15", "read `" + times("0>1:1;", 14) + "0>1:1x` = 15", "told 0 = 30", "of 29 5 = 0");
        Script.run("what is beyond 90 is not there", "gate 0 1 0 5 1 = 0", "pick `" + times("!", 86) + "cap>4` = -190");
        for (String reader : READERS) {
            Script.run("-100 less the FAULT: an empty one ends too early, at 0; THE TAPE is empty behind each call that reads it",
                reader + " = -100", "feed 33 = 1", reader + (reader.equals("read") ? " = -100" : " = -101"), "told 6 = 0", reader + " = -100");
        }
    }

    private static void figures() {
        Script.run("A number is as many figures as stand there, 3 at most: in a BOOK",
            "read `0>1:1` = 1", "read `00>01:12` = 1", "read `000>001:012@003` = 1", "read `011>010:999` = 1", "read `0000>1:5` = -103",
            "read `0>0001:5` = -102", "read `0>1000:5` = -102", "read `0>1:1234` = -107", "read `0>1:0001` = -107",
            "read `0>1:1-1234` = -109", "read `0>1:5@0001` = -106", "read `0>1:5@0011` = -109", "read `0>1:5@1000` = -106",
            "read `0>1:5@0021` = -109", "told 0 = 4");
        Script.run("3 at most: in a CONDITION",
            "gate 0 1 0 999 1 = 0", "pick `cap=999` = 1", "pick `cap=0999` = -107", "pick `cap>9990` = -107", "pick `cap>0` = 1",
            "pick `cap>000` = 1", "pick `cap>0000` = -107", "pick `cap>998` = 1", "pick `cap<999` = 0", "pick `from<001` = 1");
        Script.run("figures are 0 .. 9: not the bytes beside them", "read `0>1:/` = -104", "read `0>1::` = -104", "read `/>1:1` = -100",
            "read `:>1:1` = -100", "read `9>8:9` = 1", "pick `cap>/` = -104", "pick `cap>:` = -104", "pick `cap>9` = 0", "pick `cap<9/` = -105");
    }

    private static void bookForm() {
        String[] early = {"0", "0>", "0>1", "0>1:"};
        for (String text : early) {
            Script.run("the length, if it ends too early", "read `" + text + "` = " + (-100 - text.length()), "told 0 = 0", "told 6 = 0");
        }
        Script.run("the length, if it ends too early: behind what may stand there",
            "read `0>1:5-` = -106", "read `0>1:5@` = -106", "read `0>1:5-7@` = -108", "read `0>1:5;` = -106", "read `0>1:5;2` = -107",
            "read `0>1:5;2>` = -108", "read `0>1:5;2>3` = -109", "read `0>1:5;2>3:` = -110", "read `0>1:5x;` = -107", "told 0 = 0");
        Script.run("GATES, one or more, parted by ;", "read ` ` = -100", "read `;` = -100", "read `0>1:5;;0>1:5` = -106", "read `;0>1:5` = -100",
            "read `0>1:5,0>1:5` = -105", "told 0 = 0", "read `0>1:5` = 1", "read `0>1:5;0>1:6` = 2", "told 0 = 3");
        Script.run("a NODE, >, a NODE, :", "read `>1:5` = -100", "read `0<1:5` = -101", "read `0:1:5` = -101", "read `0>:5` = -102",
            "read `0>>1:5` = -102", "read `0>1>5` = -103", "read `0>1;5` = -103", "read `0>1=5` = -103", "read `0>1:x` = -104",
            "read `0>1:@2` = -104", "read `0>1:-5` = -104", "read `a>1:5` = -100", "read `0 >1:5` = -101", "told 0 = 0");
        Script.run("perhaps LEAST and -, CAPACITY, perhaps @ and a DELAY, perhaps x: in this order, each once",
            "read `0>1:2-5@3x` = 1", "of 0 * = 0 1 2 5 3 0", "read `0>1:2-5x` = 1", "of 1 * = 0 1 2 5 1 0", "read `0>1:5@2` = 1",
            "of 2 * = 0 1 0 5 2 1", "read `0>1:0-0` = 1", "read `0>1:5x@2` = -106", "read `0>1:5xx` = -106", "read `0>1:5@2@2` = -107",
            "read `0>1:5@2-6` = -107", "read `0>1:1-5-6` = -107", "read `0>1:5--6` = -106", "read `0>1:5@x` = -106", "read `0>1:5-x` = -106",
            "read `0>1:5X` = -105", "read `0>1:5 ` = -105", "read `0>1:5@2y` = -107", "told 0 = 4");
    }

    private static void bookNumbers() {
        Script.run("of a number that may not be (no such NODE) where it begins, ahead of the byte behind",
            "read `11>0:5` = 1", "read `12>0:5` = -100", "read `12` = -100", "read `12x` = -100", "read `999>0:5` = -100",
            "read `0>12:5` = -102", "read `0>12` = -102", "read `0>12x` = -102", "read `1>999` = -102", "read `0>11:5` = 1",
            "read `0>1:5;12>1:5` = -106", "read `0>1:5;1>12:5` = -108", "told 0 = 2");
        Script.run("(the same one)", "read `3>3:5` = -102", "read `3>003:5` = -102", "read `003>3` = -104", "read `3>3x` = -102",
            "read `0>0:5` = -102", "read `0>1:5;0>0:5` = -108", "read `11>11:5` = -103", "told 0 = 0", "read `3>4:5;4>3:5` = 2");
        Script.run("(a CAPACITY below LEAST)", "read `0>1:5-5` = 1", "read `0>1:5-4` = -106", "read `0>1:5-4;` = -106", "read `0>1:5-4y` = -106",
            "read `0>1:999-998` = -108", "read `0>1:1-0` = -106", "read `0>1:1-00` = -106", "read `0>1:10-9@7` = -107", "read `0>1:0-0` = 1",
            "read `0>1:999-999` = 1", "read `0>1:5-1000` = -109", "told 0 = 3");
        Script.run("(a DELAY that is none)", "read `0>1:5@1` = 1", "read `0>1:5@3` = 1", "read `0>1:5@0` = -106", "read `0>1:5@4` = -106",
            "read `0>1:5@0x` = -106", "read `0>1:5@000` = -106", "read `0>1:5@4y` = -106", "read `0>1:5@10` = -106", "read `0>1:5@999` = -106",
            "read `0>1:2-5@9` = -108", "told 0 = 2", "of 0 4 = 1", "of 1 4 = 3");
        Script.run("of two FAULTS the one on the left", "read `12>12:5` = -100", "read `0>12:5-4` = -102", "read `0>1:5-4@9` = -106",
            "read `0>1:5@9;12>0:5` = -106", "read `0>1:5;12>0:5;x` = -106");
    }

    private static void noRoom() {
        GateFlow x = new GateFlow();
        for (int g = 0; g < 28; g++) {
            x.gate(0, 11, 0, 1, 1);
        }
        Script.on(x, "of a GATE for which there is no room, where it begins, ahead of its first byte",
            "read `0>1:1;0>1:2;0>1:3` = -112", "told 0 = 28", "read `0>1:1;0>1:2;` = -112", "read `0>1:1;0>1:2;x` = -112",
            "read `0>1:1;0>1:2;12>1:5` = -112", "read `0>1:1;0>1:2y` = -111", "read `0>1:1;0>0:2;0>1:3` = -108", "told 0 = 28", "most = 28",
            "read `0>1:1;0>1:2` = 2", "told 0 = 30", "read `0>1:1` = -100", "read `x` = -100", "read = -100", "read `12>1:5` = -100",
            "told 6 = 0", "drop = 29", "read `0>1:1;` = -106", "read `0>11:1` = 1", "told 0 = 30", "most = 29");
    }

    private static void conditionForm() {
        Script.run("T or E|T; F or T&F: & binds more than |",
            "gate 0 1 0 1 1 = 0", "gate 0 2 0 2 1 = 1", "gate 3 1 0 3 1 = 2", "pick `cap=1` = 1", "pick `cap=1|cap=3` = 5",
            "pick `cap=1|cap=2|cap=3` = 7", "pick `from=0&to=1` = 1", "pick `from=0&to=1&cap=2` = 0", "pick `cap=3|from=0&to=1` = 5",
            "pick `from=0&to=1|cap=3` = 5", "pick `cap=1|cap=2&cap=3` = 1", "pick `cap=1&cap=2|cap=3&to=1|cap=2` = 6",
            "pick `(cap=3|from=0)&to=1` = 5", "pick `to=1&(cap=3|from=0)` = 5", "many `cap=1|cap=2` = 2");
        Script.run("!F: of what stands next alone; any number of !",
            "gate 0 1 0 1 1 = 0", "gate 0 2 0 2 1 = 1", "pick `!cap=1` = 2", "pick `!!cap=1` = 1", "pick `!!!cap=1` = 2", "pick `!cap=1&cap=1` = 0",
            "pick `!cap=1|cap=1` = 3", "pick `!(cap=1|cap=2)` = 0", "pick `!(!cap=1)` = 1", "pick `cap=1|!cap=1` = 3", "pick `!(cap=1)&to=2` = 2",
            "many `!cap=9` = 2");
        Script.run("the length, if it ends too early",
            "pick `c` = -100", "pick `cap` = -103", "pick `cap>` = -104", "pick `!` = -101", "pick `(` = -101", "pick `(cap>1` = -106",
            "pick `cap>1&` = -106", "pick `cap>1|` = -106", "pick `cap>1&!` = -107", "pick `cap>1|(` = -107", "pick `((cap>1)` = -108",
            "pick `(cap>1)&(cap>1` = -114", "many `cap` = -103", "shutAll 0 `cap` = -103", "shutAll 1 `(cap>1` = -106");
        Script.run("the place of the first byte with which no such text goes on",
            "pick `cap>1)` = -105", "pick `cap>1(` = -105", "pick `cap>1!` = -105", "pick `cap>1 ` = -105", "pick `cap>1c` = -105",
            "pick `cap>1&&cap>1` = -106", "pick `cap>1||cap>1` = -106", "pick `cap>1&|cap>1` = -106", "pick `cap>=1` = -104", "pick `cap<>1` = -104",
            "pick `cap1` = -103", "pick `cap!1` = -103", "pick `cap(1` = -103", "pick `cap>a` = -104", "pick `cap>-1` = -104", "pick `(cap>1))` = -107",
            "pick `cap>1;` = -105", "pick `cap ` = -103", "pick `cap?1` = -103", "pick `cap;1` = -103", "many `cap>1)` = -105", "shutAll 0 `cap>1)` = -105");
        Script.run("< or = or >: the edge of each", "gate 0 1 0 5 1 = 0", "pick `cap<4` = 0", "pick `cap<5` = 0", "pick `cap<6` = 1", "pick `cap=4` = 0",
            "pick `cap=5` = 1", "pick `cap=6` = 0", "pick `cap>4` = 1", "pick `cap>5` = 0", "pick `cap>6` = 0");
        Script.run("of no gates", "pick `cap>0` = 0", "pick `!cap>0` = 0", "many `!cap>0` = 0", "shutAll 0 `!cap>0` = 0", "pick `cap` = -103");
        GateFlow x = new GateFlow();
        for (int g = 0; g < 30; g++) {
            x.gate(0, 1, 0, g, 1);
        }
        Script.on(x, "of 30 gates", "pick `cap<30` = 1073741823", "many `cap<30` = 30", "pick `!cap<30` = 0", "pick `cap=29` = 536870912",
            "pick `!cap=29` = 536870911", "shutAll 0 `cap<30` = 30", "told 1 = 0");
    }

    private static void readAnew() {
        Script.run("a text is read from left to right: nothing of one that had a FAULT is left",
            "gate 0 1 0 5 1 = 0", "pick `!` = -101", "pick `cap>1` = 1", "pick `(!` = -102", "pick `(cap>1)` = 1", "pick `((((!` = -105",
            "pick `((((cap>1))))` = 1", "pick `!(` = -102", "pick `cap>1` = 1", "pick `((!(cap` = -107", "pick `((cap>1))` = 1", "pick `(((((!` = -106", "pick `(((((cap>1)))))` = 1", "pick `cap>1|` = -106", "pick `cap<1` = 0",
            "pick `(cap>1|` = -107", "pick `(cap<1)` = 0", "pick `cap<1&` = -106", "pick `cap>1` = 1", "pick `(cap<1&` = -107",
            "pick `(cap>1)` = 1", "pick `((` = -102", "pick `cap>1` = 1", "pick `cap>1)` = -105", "many `cap>1` = 1",
            "shutAll 0 `!` = -101", "shutAll 0 `cap>1` = 1", "read `0>` = -102", "read `0>1:5` = 1", "read `12` = -100", "pick `cap=5` = 3");
    }

    private static void words() {
        Script.run("WORDS: from, to, cap, least, delay, water, room, shut",
            "gate 0 1 2 9 3 = 0", "gate 1 11 0 5 1 = 1", "gate 3 4 0 7 2 = 2", "turn 2 0 = 1", "pick `from=0` = 1", "pick `to=11` = 2",
            "pick `cap=9` = 1", "pick `least=2` = 1", "pick `delay=3` = 1", "pick `water=5` = 3", "pick `room=4` = 1", "pick `shut=1` = 4",
            "pick `shut=0` = 3", "pick `shut>1` = 0", "pick `room=0` = 2", "pick `water=0` = 4", "pick `cap=7` = 4", "pick `least=0` = 6",
            "pick `room=7` = 4");
        String[] none = {"a", "z", "fro", "fromm", "form", "t", "too", "ca", "caps", "capcap", "leas", "leastt", "dela", "delays", "wate", "waters",
            "roo", "rooms", "shu", "shutt", "open", "capto", "zap", "cam"};
        for (String word : none) {
            Script.run("of a WORD that is none, where it begins, ahead of the byte behind",
                "pick `" + word + "` = -100", "pick `" + word + ">1` = -100", "pick `" + word + "?` = -100", "pick `cap>1&" + word + ">1` = -106",
                "many `(" + word + "` = -101", "shutAll 0 `!" + word + "` = -101");
        }
        Script.run("(an empty one, too)", "pick `>1` = -100", "pick `&cap>1` = -100", "pick `|` = -100", "pick `)` = -100", "pick `()` = -101",
            "pick `!)` = -101", "pick `cap>1&>1` = -106", "pick `5` = -100", "pick `Cap>1` = -100", "pick `cap>1|CAP>1` = -106", "pick ` cap>1` = -100",
            "pick `!!>` = -102");
        Script.run("as many of a .. z as stand there", "pick `cap`>1` = -103", "pick `cap{>1` = -103", "pick `capX>1` = -103", "pick `azcap>1` = -100");
        Script.run("of a WORD ahead of a place further on", "pick `caps>x` = -100", "pick `cap>1&caps` = -106", "pick `caps>1)` = -100",
            "pick `cap>x&caps` = -104");
    }

    private static void brackets() {
        String[] closed = {"cap>1", "(cap>1)", "((cap>1))", "(((cap>1)))", "((((cap>1))))", "(((((cap>1)))))"};
        for (String text : closed) {
            Script.run("A ( within 5 others is none: within fewer it is one",
                "gate 0 1 0 5 1 = 0", "pick `" + text + "` = 1", "pick `!" + text + "` = 0", "many `" + text + "&" + text + "` = 1");
        }
        Script.run("A ( within 5 others is none", "pick `((((((cap>1))))))` = -105", "pick `((((((` = -105", "pick `(((((` = -105",
            "pick `(((((!(cap>1))))))` = -106", "pick `(((((cap>1&(cap>1))))))` = -111", "pick `(((((cap>1|(` = -111", "pick `((((((((((` = -105",
            "many `((((((cap>1))))))` = -105", "shutAll 0 `((((((cap>1))))))` = -105");
        Script.run("those that are closed don't count", "gate 0 1 0 5 1 = 0", "pick `(((((cap>1)))))&(((((cap>1)))))` = 1",
            "pick `(cap>1)&(cap>1)&(cap>1)&(cap>1)&(cap>1)&(cap>1)` = 1", "pick `((((cap>1)&(cap>1)|(cap>1))))` = 1",
            "pick `((((((cap>1))))))` = -105", "pick `(((((cap>1)|((cap>1)))))` = -113");
    }

    private static void nothingDone() {
        Script.run("A text with a FAULT does nothing",
            "gate 0 11 0 5 1 = 0", "read `0>11:1;0>11:2;0>11` = -118", "told 0 = 1", "most = 5", "of 1 0 = -1", "read `7>8:3-9@2x;1>1:5` = -113",
            "gate 0 11 0 6 1 = 1", "of 1 * = 0 11 0 6 1 1", "shutAll 0 `cap>1&` = -106", "told 1 = 2", "shutAll 0 `cap>1)` = -105", "told 1 = 2",
            "most = 11", "spell = 13", "PAPER = `0>11:5;0>11:6`");
        Script.run("read: how many GATES came, OPEN or SHUT, behind those that are there",
            "gate 0 11 0 5 1 = 0", "most = 5", "read `0>11:2x;0>11:3` = 2", "most = 8", "told 0 = 3", "told 1 = 2", "of 1 5 = 0", "of 2 3 = 3");
    }

    private static void shutAll() {
        Script.run("shutAll: NONE (THE TAPE stays)",
            "gate 0 11 0 5 1 = 0", "shutAll 2 `cap>1` = -1", "told 6 = 5", "shutAll -1 = -1", "shutAll MAX = -1", "shutAll MIN = -1", "told 6 = 5",
            "told 1 = 1", "shutAll 0 = 1", "told 6 = 0", "told 1 = 0", "shutAll 2 = -1", "shutAll 2 `x` = -1", "told 6 = 1", "shutAll 1 = -100");
        Script.run("how many were otherwise", "gate 0 11 0 5 1 = 0", "gate 0 11 0 6 1 = 1", "shutAll 1 `cap>1` = 0", "shutAll 0 `cap>5` = 1",
            "shutAll 0 `cap>1` = 1", "shutAll 0 `cap>1` = 0", "shutAll 1 `cap>9` = 0", "shutAll 1 `cap>1` = 2", "most = 11");
        Script.run("by what is ahead of it", "gate 0 1 0 5 1 = 0", "gate 1 11 0 5 1 = 1", "gate 1 11 0 5 1 = 2", "shutAll 0 `water=5` = 2",
            "told 1 = 1", "of 2 5 = 1", "shutAll 1 `shut=1|water>0` = 2", "told 1 = 3");
    }

    private static void spelled() {
        Script.run("LEAST told if it isn't 0, DELAY if it isn't 1, numbers as short as can be",
            "spell = 0", "gate 0 1 0 0 1 = 0", "spell = 5", "PAPER = `0>1:0`", "bind 0 0 = 0", "spell = 5", "widen 0 9 = 0", "spell = 5",
            "widen 0 10 = 9", "spell = 6", "PAPER = `0>1:10`", "widen 0 99 = 10", "spell = 6", "widen 0 100 = 99", "spell = 7", "PAPER = `0>1:100`",
            "bind 0 1 = 0", "spell = 9", "PAPER = `0>1:1-100`", "bind 0 10 = 1", "spell = 10", "bind 0 100 = 10", "spell = 11",
            "PAPER = `0>1:100-100`", "turn 0 0 = 1", "spell = 12", "PAPER = `0>1:100-100x`", "turn 0 1 = 0", "bind 0 0 = 100",
            "gate 9 10 0 905 2 = 1", "gate 10 9 0 90 3 = 2", "spell = 28", "PAPER = `0>1:100;9>10:905@2;10>9:90@3`", "turn 2 0 = 1", "spell = 29");
        GateFlow x = new GateFlow();
        for (int g = 0; g < 30; g++) {
            x.gate(11, 10, 999, 999, 3);
        }
        Script.on(x, "the longest of all", "spell = 479", "pick `from=0` = 0", "shutAll 0 `from=11` = 30", "spell = 509", "told 7 = 509",
            "paper 0* = 49 49 62 49 48 58 57 57 57 45 57 57 57 64 51 120 59 49", "paper 507* = 51 120 -1 -1", "paper MAX = -1", "drop = 29",
            "told 7 = 509", "spell = 492", "paper 491* = 120 -1");
    }

    private static void paper() {
        Script.run("paper: nothing at first; NONE", "paper 0 = -1", "paper -1 = -1", "told 7 = 0", "gate 0 1 0 5 1 = 0", "paper 0 = -1", "spell = 5",
            "paper 0* = 48 62 49 58 53 -1 -1", "paper -1 = -1", "paper 90 = -1", "paper MAX = -1", "paper MIN = -1");
        Script.run("THE PAPER holds the latest one", "gate 0 1 0 5 1 = 0", "spell = 5", "gate 0 1 0 6 1 = 1", "widen 0 7 = 5", "told 7 = 5",
            "PAPER = `0>1:5`", "spell = 11", "PAPER = `0>1:7;0>1:6`", "drop = 1", "told 7 = 11", "drop = 0", "spell = 0", "told 7 = 0", "paper 0 = -1");
    }

    private static void told() {
        Script.run("told: NONE", "told -1 = -1", "told 11 = -1", "told MAX = -1", "told MIN = -1", "told * = 0 0 0 11 0 0 0 0 0 0 0 -1 -1");
        Script.run("4 CAPACITIES of OPEN GATES from the SOURCE, 5 to the SINK: those against it don't count",
            "gate 0 1 0 999 1 = 0", "gate 1 0 0 9 1 = 1", "gate 11 0 0 8 1 = 2", "gate 0 11 0 7 1 = 3", "gate 1 11 0 5 1 = 4",
            "told * = 5 5 0 11 1006 12 0 0 2 2 0", "turn 3 0 = 1", "told * = 5 4 0 11 999 5 0 0 1 1 0", "ends 11 0 = 1",
            "told * = 5 4 11 0 8 17 0 0 1 1 0", "turn 2 0 = 1", "told * = 5 3 11 0 0 9 0 0 0 0 0");
    }
}
