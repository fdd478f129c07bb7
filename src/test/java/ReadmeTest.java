import java.io.IOException;
import java.nio.file.Files;
import java.nio.file.Path;
import java.util.ArrayList;
import java.util.List;
import java.util.regex.Matcher;
import java.util.regex.Pattern;

// The example of README.md is carried out as it stands there: each of its calls
// must answer the number behind it. It is read from the folder that .ci/run
// runs in.
public final class ReadmeTest {
    private static final Pattern CALL = Pattern.compile("graph\\.(\\w+)\\(([^)]*)\\);\\s*// (-?\\d+)(:.*)?");

    private static int calls = 0;
    private static int wrong = 0;

    public static void main(String[] args) throws IOException, ReflectiveOperationException {
        TokenGraphs graph = new TokenGraphs();
        for (String line : example()) {
            if (line.startsWith("graph.")) {
                carryOut(graph, line);
            }
        }
        // An example that is not found would pass unseen.
        if (calls < 10) {
            wrong++;
            System.out.println("only " + calls + " calls found in the example of README.md");
        }
        System.out.println(wrong == 0 ? "all answers are as due" : wrong + " lines are not as due");
        if (wrong != 0) {
            System.exit(1);
        }
    }

    private static List<String> example() throws IOException {
        List<String> found = new ArrayList<>();
        boolean inside = false;
        for (String line : Files.readAllLines(Path.of("README.md"))) {
            if (line.startsWith("```")) {
                inside = line.equals("```java");
            } else if (inside) {
                found.add(line);
            }
        }
        return found;
    }

    private static void carryOut(TokenGraphs graph, String line) throws ReflectiveOperationException {
        Matcher call = CALL.matcher(line);
        if (!call.matches()) {
            wrong++;
            System.out.println("no call with its answer: " + line);
            return;
        }
        calls++;
        Object got = answer(graph, call.group(1), call.group(2));
        if (!got.equals(Integer.valueOf(call.group(3)))) {
            wrong++;
            System.out.println(line + " answered " + got);
        }
    }

    private static Object answer(TokenGraphs graph, String name, String written)
            throws ReflectiveOperationException {
        String[] parts = written.isEmpty() ? new String[0] : written.split(", ");
        Class<?>[] types = new Class<?>[parts.length];
        Object[] numbers = new Object[parts.length];
        for (int i = 0; i < parts.length; i++) {
            types[i] = int.class;
            numbers[i] = Integer.valueOf(parts[i]);
        }
        return TokenGraphs.class.getMethod(name, types).invoke(graph, numbers);
    }
}
