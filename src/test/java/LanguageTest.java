import java.io.IOException;
import java.lang.reflect.Constructor;
import java.lang.reflect.Field;
import java.lang.reflect.Method;
import java.lang.reflect.Modifier;
import java.nio.file.Files;
import java.nio.file.Path;
import java.util.Arrays;
import java.util.Set;
import java.util.TreeSet;
import java.util.regex.Matcher;
import java.util.regex.Pattern;

/** The public face, and those rules of LANGUAGE.md that can be seen from the text. */
final class LanguageTest {
    private static final String[] FACE = {
        "gate 5", "of 2", "widen 2", "bind 2", "turn 2", "drop 0", "ends 2", "most 0", "water 1", "ways 2", "byHeights 1",
        "heights 2", "near 0", "far 0", "cut 1", "wide 0", "narrow 0", "more 2", "loss 1", "worst 1", "lines 2", "bound 1",
        "apart 1", "hours 1", "two 2", "reach 2", "feed 1", "clear 0", "read 0", "pick 0", "many 0", "shutAll 1", "spell 0",
        "paper 1", "told 1", "list 2", "set 3", "get 2", "lay 3", "judge 2", "image 0", "undo 0"
    };
    private static final String[] FORBIDDEN = {
        "\\bthrow\\b", "\\btry\\b", "\\bcatch\\b", "\\bsynchronized\\b", "\\bassert\\b", "->", "::", "\\bstatic\\s*\\{",
        "\\bSystem\\.(?!arraycopy)", "\\bObject\\b", "\\bequals\\b", "\\bhashCode\\b", "Exact\\b", "\\bvar\\b", "\"\\s*\\+",
        "\\+\\s*\"", "\\bextends\\b", "\\bMath\\.random"
    };

    public static void main(String[] args) throws IOException {
        face();
        String text = Files.readString(Path.of("src/main/java/GateFlow.java"));
        words(text);
        methods(text);
        classes();
        Check.end("LanguageTest");
    }

    private static void face() {
        Set<String> names = new TreeSet<>();
        Set<String> methods = new TreeSet<>();
        for (Method m : GateFlow.class.getDeclaredMethods()) {
            if (!Modifier.isPrivate(m.getModifiers())) {
                Check.due(m + " is public and no more", m.getModifiers(), Modifier.PUBLIC);
                Check.due(m + " answers an int", m.getReturnType() == int.class ? 1 : 0, 1);
                for (Class<?> p : m.getParameterTypes()) {
                    Check.due(m + " takes ints", p == int.class ? 1 : 0, 1);
                }
                methods.add(m.getName() + " " + m.getParameterCount());
                names.add(m.getName());
            }
        }
        Check.dueText("the public methods", methods.toString(), new TreeSet<>(Arrays.asList(FACE)).toString());
        Set<Class<?>> all = new java.util.LinkedHashSet<>(Arrays.asList(GateFlow.class.getDeclaredClasses()));
        all.add(GateFlow.class);
        for (Class<?> c : all) {
            for (Method m : c.getDeclaredMethods()) {
                boolean taken = (c != GateFlow.class || Modifier.isPrivate(m.getModifiers())) && names.contains(m.getName());
                Check.due(m + " bears the name of a public one", taken ? 1 : 0, 0);
            }
        }
        Check.due("the class is public and final", GateFlow.class.getModifiers(), Modifier.PUBLIC | Modifier.FINAL);
        for (Constructor<?> c : GateFlow.class.getDeclaredConstructors()) {
            Check.due(c + " is the one", c.getModifiers() + c.getParameterCount(), Modifier.PUBLIC);
        }
    }

    private static void words(String text) {
        for (String line : text.split("\n")) {
            String code = line.contains("/**") || line.contains("//") ? "" : line;
            for (String f : FORBIDDEN) {
                Check.due("'" + f + "' in: " + line.trim(), Pattern.compile(f).matcher(code).find() ? 1 : 0, 0);
            }
            // What is made is made with the object; a call makes nothing.
            if (code.contains("new ")) {
                boolean withObject = code.matches("        (private )?final \\w+(\\[\\])? \\w+ = new .*;")
                    || code.matches("        \\w+ = new \\w+\\(\\);");
                Check.due("made with the object: " + line.trim(), withObject ? 1 : 0, 1);
            }
            if (code.startsWith("import ")) {
                Check.dueText("import", code, "import java.util.Arrays;");
            }
            for (int i = 0; i < line.length(); i++) {
                if (line.charAt(i) < 32 || line.charAt(i) > 126) {
                    Check.due("a sign in: " + line.trim(), line.charAt(i), 0);
                }
            }
        }
    }

    private static void methods(String text) {
        String[] lines = text.split("\n");
        Pattern head = Pattern.compile("^( {4}| {8})[a-z].*\\b(\\w+)\\(([^()]*)\\) \\{$");
        for (int i = 0; i < lines.length; i++) {
            Matcher m = head.matcher(lines[i]);
            if (!m.matches()) {
                continue;
            }
            int end = i;
            while (!lines[end].equals(m.group(1) + "}")) {
                end++;
            }
            Check.due(m.group(2) + " is of " + (end - i + 1) + " lines", end - i + 1 <= 60 ? 1 : 0, 1);
            Check.due(m.group(2) + " takes at most seven", m.group(3).split(",").length <= 7 ? 1 : 0, 1);
        }
    }

    private static void classes() {
        Class<?>[] inside = GateFlow.class.getDeclaredClasses();
        Check.due("at most twelve classes", inside.length + 1 <= 12 ? 1 : 0, 1);
        for (Class<?> c : inside) {
            int wanted = Modifier.PRIVATE | Modifier.STATIC;
            Check.due(c + " is private and static", c.getModifiers() & wanted, wanted);
            fields(c);
        }
        fields(GateFlow.class);
    }

    private static void fields(Class<?> c) {
        int own = 0;
        for (Field f : c.getDeclaredFields()) {
            int mods = f.getModifiers();
            if (Modifier.isStatic(mods)) {
                Check.due(f + " is final", mods & Modifier.FINAL, Modifier.FINAL);
            } else {
                own++;
            }
            if (c == GateFlow.class && !Modifier.isPrivate(mods)) {
                Check.due(f + " is of the face", Arrays.asList("NONE", "BAD", "STATE", "FULL").contains(f.getName()) ? 1 : 0, 1);
            }
        }
        Check.due(c + " has " + own + " fields", own <= 20 ? 1 : 0, 1);
    }
}
