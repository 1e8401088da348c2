import java.io.IOException;
import java.lang.reflect.InvocationTargetException;
import java.lang.reflect.Method;
import java.lang.reflect.Modifier;
import java.nio.file.DirectoryStream;
import java.nio.file.Files;
import java.nio.file.Path;
import java.util.regex.Matcher;
import java.util.regex.Pattern;

/** The calls in README.md answer what stands behind them, and nothing is left out there. */
public final class ReadmeTests {

    private static final Pattern SAMPLE = Pattern.compile("(?s)```java\n(.*?)```");
    private static final Pattern TYPED =
            Pattern.compile("for \\(char code : \"(.*)\"\\.toCharArray\\(\\)\\) \\{");
    private static final Pattern CALL = Pattern.compile("x\\.(\\w+)\\((.*)\\);\\s+// ([^:]+): .+");

    private final Checks checks = new Checks();
    private FallingPatterns x;

    public static void main(String[] args) throws IOException {
        String readme = Files.readString(Path.of("README.md"));
        ReadmeTests tests = new ReadmeTests();
        tests.samples(readme);
        tests.allCallsAreNamed(readme);
        tests.allTestsAreNamed(readme);
        tests.checks.end("ReadmeTests");
    }

    private void samples(String readme) {
        Matcher sample = SAMPLE.matcher(readme);
        int calls = 0;
        while (sample.find()) {
            for (String line : sample.group(1).split("\n")) {
                calls += run(line.trim()) ? 1 : 0;
            }
        }
        checks.due("there are calls with answers", calls > 0, true);
    }

    /** Whether the line is a call with its answer. */
    private boolean run(String line) {
        Matcher typed = TYPED.matcher(line);
        Matcher call = CALL.matcher(line);
        if (line.equals("FallingPatterns x = new FallingPatterns();")) {
            x = new FallingPatterns();
        } else if (typed.matches()) {
            Sentences.type(x, typed.group(1));
        } else if (call.matches()) {
            checks.due(line, outcome(call.group(1), call.group(2)), call.group(3));
            return true;
        } else {
            // The two lines that end a loop over characters were run with its first line.
            checks.due("read: " + line, line.equals("x.append(code);") || line.equals("}"), true);
        }
        return false;
    }

    private String outcome(String name, String values) {
        for (Method method : FallingPatterns.class.getMethods()) {
            if (method.getName().equals(name)) {
                try {
                    return "" + method.invoke(x, told(values));
                } catch (InvocationTargetException e) {
                    return "throws " + e.getCause().getClass().getSimpleName();
                } catch (IllegalAccessException | IllegalArgumentException e) {
                    return "no such call";
                }
            }
        }
        return "no such call";
    }

    private static Object[] told(String values) {
        String[] texts = values.isEmpty() ? new String[0] : values.split(", ");
        Object[] told = new Object[texts.length];
        for (int index = 0; index < texts.length; index++) {
            boolean isTruth = texts[index].equals("true") || texts[index].equals("false");
            told[index] = isTruth ? Boolean.valueOf(texts[index])
                    : (Object) Integer.valueOf(texts[index]);
        }
        return told;
    }

    private void allCallsAreNamed(String readme) {
        for (Method method : FallingPatterns.class.getDeclaredMethods()) {
            if (Modifier.isPublic(method.getModifiers())) {
                dueNamed(readme, method.getName());
            }
        }
    }

    private void allTestsAreNamed(String readme) throws IOException {
        try (DirectoryStream<Path> tests =
                Files.newDirectoryStream(Path.of("src/test/java"), "*Tests.java")) {
            for (Path test : tests) {
                dueNamed(readme, test.getFileName().toString().replace(".java", ""));
            }
        }
        dueNamed(readme, ".ci/run");
    }

    private void dueNamed(String readme, String name) {
        checks.due("`" + name + "` is named", readme.contains("`" + name + "`"), true);
    }
}
