import java.io.IOException;
import java.lang.reflect.Method;
import java.lang.reflect.Modifier;
import java.nio.file.Files;
import java.nio.file.Path;
import java.util.Arrays;
import java.util.regex.Matcher;
import java.util.regex.Pattern;

/** The example in README.md answers as it says there, and each call of the class is named in it. */
final class ReadmeTest {
    private static final Pattern CALL = Pattern.compile("x\\.(\\w+)\\(([-0-9, ]*)\\); *// (-?\\d+).*");
    private static final Pattern FED = Pattern.compile("for \\(char c : \"(.*)\"\\.toCharArray\\(\\)\\) x\\.feed\\(c\\);");
    private static final Pattern PAPER = Pattern.compile(".*the paper is \"(.*)\"");

    public static void main(String[] args) throws IOException {
        String text = Files.readString(Path.of("README.md"));
        int begin = text.indexOf("```java\n") + "```java\n".length();
        example(text.substring(begin, text.indexOf("```", begin)).split("\n"));
        for (Method m : GateFlow.class.getDeclaredMethods()) {
            if (Modifier.isPublic(m.getModifiers())) {
                Check.due("README.md names " + m.getName(), text.contains("`" + m.getName() + "`") ? 1 : 0, 1);
            }
        }
        Check.end("ReadmeTest");
    }

    private static void example(String[] lines) {
        GateFlow x = new GateFlow();
        int calls = 0;
        for (String line : lines) {
            Matcher call = CALL.matcher(line);
            Matcher fed = FED.matcher(line);
            if (call.matches()) {
                calls++;
                Check.due(line, Script.call(x, call.group(1), numbers(call.group(2))), Integer.parseInt(call.group(3)));
                Matcher paper = PAPER.matcher(line);
                if (paper.matches()) {
                    Check.dueText(line, Check.paper(x), paper.group(1));
                }
            } else if (fed.matches()) {
                Check.feed(x, fed.group(1));
            } else {
                Check.due("a line of the example that is no call: " + line, line.startsWith("GateFlow x = new GateFlow();") ? 1 : 0, 1);
            }
        }
        Check.due("calls of the example, " + calls + ", are some", calls >= 10 ? 1 : 0, 1);
    }

    private static int[] numbers(String told) {
        return told.isEmpty() ? new int[0] : Arrays.stream(told.split(", ")).mapToInt(Integer::parseInt).toArray();
    }
}
