import java.io.IOException;
import java.nio.file.Files;
import java.nio.file.Path;
import java.util.regex.Matcher;
import java.util.regex.Pattern;

/** The calls of README.md answer what stands beside them there. Runs in the project's folder. */
public final class ReadmeTest {
    private static final Pattern CALL = Pattern.compile("t\\.(\\w+)\\(([-0-9, ]+)\\); *// (-?[0-9]+)(:.*)?");

    public static void main(String[] args) throws IOException {
        TightRange t = new TightRange();
        int calls = 0;
        for (String line : Files.readAllLines(Path.of("README.md"))) {
            if (line.startsWith("t.")) {
                calls++;
                dueLine(t, line);
            }
        }
        if (calls == 0) {
            Check.fault("README.md has no example");
        }
        Check.end();
    }

    private static void dueLine(TightRange t, String line) {
        Matcher call = CALL.matcher(line);
        if (!call.matches()) {
            Check.fault("README.md has a call without its answer: " + line);
            return;
        }
        int want = Integer.parseInt(call.group(3));
        Check.due("README.md: " + line, answerOf(t, call.group(1), numbersOf(call.group(2))), want);
    }

    private static int[] numbersOf(String arguments) {
        return Pattern.compile(", ").splitAsStream(arguments).mapToInt(Integer::parseInt).toArray();
    }

    private static int answerOf(TightRange t, String name, int[] with) {
        switch (name) {
            case "set": return t.set(with[0], with[1], with[2]);
            case "combine": return t.combine(with[0], with[1], with[2], with[3]);
            case "apply": return t.apply(with[0], with[1], with[2]);
            case "low": return t.low(with[0]);
            case "high": return t.high(with[0]);
            case "less": return t.less(with[0], with[1]);
            case "apart": return t.apart(with[0], with[1]);
            default: throw new IllegalArgumentException("no method " + name);
        }
    }
}
