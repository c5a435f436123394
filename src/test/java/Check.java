import java.util.ArrayList;
import java.util.List;

/** What the tests share: they say what is due, and end with exit code 1 if an answer was another. */
final class Check {
    private static int asked = 0;
    private static int wrong = 0;

    private Check() { }

    static void due(String call, long got, long want) {
        asked++;
        if (got != want) {
            wrong++;
            if (wrong <= 50) {
                System.out.println(call + " answered " + got + ", due is " + want);
            }
        }
    }

    static void end(String name) {
        System.out.println(name + ": " + (asked - wrong) + " of " + asked + " answers are as due");
        if (wrong != 0 || asked == 0) {
            System.exit(1);
        }
    }

    /** Feeds a text; the tape must be empty ahead of it. */
    static void feed(GateFlow x, String text) {
        for (int i = 0; i < text.length(); i++) {
            due("feed of byte " + i + " of " + text, x.feed(text.charAt(i)), i + 1);
        }
    }

    /** Feeds and reads a book. */
    static int book(GateFlow x, String text) {
        feed(x, text);
        return x.read();
    }

    /** Feeds and picks by a condition. */
    static int pick(GateFlow x, String text) {
        feed(x, text);
        return x.pick();
    }

    static String paper(GateFlow x) {
        StringBuilder text = new StringBuilder();
        int size = x.told(7);
        for (int i = 0; i < size; i++) {
            text.append((char) x.paper(i));
        }
        return text.toString();
    }

    static void dueText(String call, String got, String want) {
        if (!got.equals(want)) {
            System.out.println(call + " answered " + got + ", due is " + want);
        }
        due(call, got.equals(want) ? 1 : 0, 1);
    }

    static int bits(int... places) {
        int bits = 0;
        for (int place : places) {
            bits |= 1 << place;
        }
        return bits;
    }

    /** A row of numbers that looks like chance, and is the same each time. */
    static final class Row {
        private long state;

        Row(long seed) {
            state = seed * 2862933555777941757L + 3037000493L;
        }

        int below(int bound) {
            state = state * 6364136223846793005L + 1442695040888963407L;
            return (int) ((state >>> 33) % bound);
        }

        List<Integer> shuffled(int n) {
            List<Integer> order = new ArrayList<>();
            for (int i = 0; i < n; i++) {
                order.add(below(i + 1), i);
            }
            return order;
        }
    }
}
