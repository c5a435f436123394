import java.lang.reflect.InvocationTargetException;
import java.lang.reflect.Method;
import java.lang.reflect.Modifier;
import java.util.Arrays;

/**
 * Runs of calls told as texts, each with what is due: "gate 0 1 0 10 1 = 0".
 * A text in ` ` is fed ahead of the call: "pick `cap>5` = 1", "shutAll 0 `cap>5` = 1".
 * A last number with * stands for as many as are due: "of 0 * = 0 1 0 10 1 1", "ways 0 10* = 0 4".
 * "PAPER = `..`" holds the whole paper to a text. MAX and MIN are the greatest and the least int.
 */
final class Script {
    /** An object is for so many calls: behind them any answer is free. */
    private static final int CALLS = 512;

    private final String sentence;
    private final GateFlow x;
    private int calls = 0;

    private Script(String sentence, GateFlow x) {
        this.sentence = sentence;
        this.x = x;
    }

    /** A run on a new object, for a sentence of the document. */
    static GateFlow run(String sentence, String... lines) {
        return on(new GateFlow(), sentence, lines);
    }

    static GateFlow on(GateFlow x, String sentence, String... lines) {
        Script s = new Script(sentence, x);
        for (String line : lines) {
            s.line(line);
        }
        Check.due(sentence + ": calls, " + s.calls + ", are few enough", s.calls <= CALLS ? 1 : 0, 1);
        return x;
    }

    static int call(GateFlow x, String name, int... given) {
        for (Method m : GateFlow.class.getDeclaredMethods()) {
            if (Modifier.isPublic(m.getModifiers()) && m.getName().equals(name) && m.getParameterCount() == given.length) {
                return invoked(x, m, Arrays.stream(given).boxed().toArray());
            }
        }
        throw new IllegalArgumentException("no such call: " + name + " " + Arrays.toString(given));
    }

    private static int invoked(GateFlow x, Method m, Object[] given) {
        try {
            return (Integer) m.invoke(x, given);
        } catch (InvocationTargetException e) {
            Check.due(m.getName() + Arrays.toString(given) + " threw " + e.getCause() + ", it", 1, 0);
            return Integer.MIN_VALUE;
        } catch (IllegalAccessException e) {
            throw new IllegalStateException(e);
        }
    }

    private void line(String line) {
        int is = line.lastIndexOf(" = ");
        String asked = line.substring(0, is).trim();
        String due = line.substring(is + 3).trim();
        if (asked.equals("PAPER")) {
            Check.dueText(sentence + ": " + asked, Check.paper(x), due.substring(1, due.length() - 1));
            calls += due.length() - 1;
            return;
        }
        int quote = asked.indexOf('`');
        if (quote >= 0) {
            String text = asked.substring(quote + 1, asked.lastIndexOf('`'));
            for (int i = 0; i < text.length(); i++) {
                x.feed(text.charAt(i));
            }
            calls += text.length();
            asked = asked.substring(0, quote).trim();
        }
        ask(line, asked.split(" +"), due.split(" +"));
    }

    private void ask(String line, String[] asked, String[] due) {
        int[] given = new int[asked.length - 1];
        boolean row = asked[asked.length - 1].endsWith("*");
        for (int k = 0; k < given.length; k++) {
            String told = asked[k + 1].replace("*", "");
            given[k] = told.isEmpty() ? 0 : number(told);
        }
        if (!row && due.length != 1) {
            throw new IllegalArgumentException("one answer is due: " + line);
        }
        for (String want : due) {
            calls++;
            Check.due(sentence + ": " + line + ", given " + Arrays.toString(given), call(x, asked[0], given), number(want));
            if (row) {
                given[given.length - 1]++;
            }
        }
    }

    private static int number(String told) {
        switch (told) {
            case "MAX": return Integer.MAX_VALUE;
            case "MIN": return Integer.MIN_VALUE;
            default: return Integer.parseInt(told);
        }
    }
}
