import java.io.IOException;
import java.lang.reflect.Constructor;
import java.lang.reflect.Field;
import java.lang.reflect.Method;
import java.lang.reflect.Modifier;
import java.nio.file.Files;
import java.nio.file.Path;
import java.util.Arrays;
import java.util.List;
import java.util.TreeSet;
import java.util.regex.Matcher;
import java.util.regex.Pattern;

/** The class's face, and the rules of LANGUAGE.md that can be seen in its text. */
public final class LanguageTests {

    private static final String SOURCE = "src/main/java/FallingPatterns.java";
    private static final String A = " IllegalArgumentException";
    private static final String S = " IllegalStateException";
    private static final String I = " IndexOutOfBoundsException";
    private static final List<String> FACE = List.of(
            "int add" + A + S, "int remove int" + I + S, "int rule int" + A,
            "int feed int" + A + S, "int feedAll" + A + S, "int begin", "int append int" + A + S,
            "int clearBuffer", "int firstError boolean", "int undo" + S,
            "int pattern int int" + I + A, "int letter int int" + I + A,
            "int state int int" + I + A, "int count int" + A, "int setting",
            "int ifFed int int" + A, "int lettersTo int" + I, "int ifRepeated int int" + A,
            "int heaviest", "double sharing", "long digest");
    private static final String[] FORBIDDEN = {
        "\\bimport\\b", "\\bpackage\\b", "->", "::", "\\bcatch\\b", "\\btry\\b", "\\bfinally\\b",
        "\\bsynchronized\\b", "\\bassert\\b", "\\bvar\\b", "\\bprotected\\b", "\\bnative\\b",
        "\\bDouble\\b", "\\bSystem\\b", "\\bThread\\b", "\\bequals\\b", "\\bhashCode\\b",
        "\\btoString\\b", "Exact\\b", "\\bObject\\b", "\\[\\]\\s*\\[", "\\bString\\b",
        "\\bArrays\\b", "\\binstanceof\\b"};
    private static final Pattern METHOD =
            Pattern.compile("( {4}| {8})(?! )[\\w\\[\\] ]+\\([\\w\\[\\], ]*\\).*(?<!;)");

    private final Checks checks = new Checks();

    public static void main(String[] args) throws IOException {
        LanguageTests tests = new LanguageTests();
        tests.face();
        tests.insideClasses();
        String source = Files.readString(Path.of(SOURCE));
        tests.text(source);
        tests.lengths(source.split("\n"));
        tests.checks.end("LanguageTests");
    }

    private void face() {
        Class<FallingPatterns> type = FallingPatterns.class;
        checks.due("the class", Modifier.toString(type.getModifiers()), "public final");
        TreeSet<String> open = new TreeSet<>();
        TreeSet<String> hidden = new TreeSet<>();
        for (Method method : type.getDeclaredMethods()) {
            if (Modifier.isPrivate(method.getModifiers())) {
                hidden.add(method.getName());
            } else {
                open.add(signature(method));
            }
        }
        checks.due("the methods", open, new TreeSet<>(FACE));
        for (String call : FACE) {
            checks.due("private " + call, hidden.contains(call.split(" ")[1]), false);
        }
        Constructor<?>[] constructors = type.getDeclaredConstructors();
        checks.due("the constructors", Arrays.toString(constructors),
                "[public FallingPatterns()]");
        for (Field field : type.getDeclaredFields()) {
            int modifiers = field.getModifiers();
            checks.due("the field " + field.getName(), Modifier.isPrivate(modifiers),
                    !field.getName().equals("NONE"));
            checks.due("the field " + field.getName(), Modifier.isFinal(modifiers), true);
        }
    }

    private static String signature(Method method) {
        StringBuilder told = new StringBuilder(method.getReturnType().getSimpleName());
        told.append(' ').append(method.getName());
        for (Class<?> parameter : method.getParameterTypes()) {
            told.append(' ').append(parameter.getSimpleName());
        }
        for (Class<?> thrown : method.getExceptionTypes()) {
            told.append(' ').append(thrown.getSimpleName());
        }
        return told.toString();
    }

    private void insideClasses() {
        sizes(FallingPatterns.class);
        Class<?>[] inside = FallingPatterns.class.getDeclaredClasses();
        checks.due("at most 12 classes", inside.length < 12, true);
        for (Class<?> one : inside) {
            checks.due(one.getName(), Modifier.toString(one.getModifiers()),
                    "private static final");
            sizes(one);
            for (Method method : one.getDeclaredMethods()) {
                for (String call : FACE) {
                    checks.due("the name " + method.getName(),
                            method.getName().equals(call.split(" ")[1]), false);
                }
            }
        }
    }

    private void sizes(Class<?> type) {
        int fields = 0;
        for (Field field : type.getDeclaredFields()) {
            fields += Modifier.isStatic(field.getModifiers()) ? 0 : 1;
        }
        checks.due("at most 20 fields of " + type.getName(), fields <= 20, true);
        for (Method method : type.getDeclaredMethods()) {
            checks.due("at most 7 parameters of " + method.getName(),
                    method.getParameterCount() <= 7, true);
        }
    }

    /** A method ends where a brace stands as far in as its first line. */
    private void lengths(String[] lines) {
        for (int first = 0; first < lines.length; first++) {
            Matcher head = METHOD.matcher(lines[first]);
            if (head.matches()) {
                int last = first;
                while (last < lines.length && !lines[last].equals(head.group(1) + "}")) {
                    last++;
                }
                checks.due("at most 60 lines: " + lines[first].trim(), last - first < 60, true);
            }
        }
    }

    private void text(String source) {
        String bare = source.replaceAll("(?s)/\\*.*?\\*/", "").replaceAll("//[^\n]*", "");
        bare = bare.replaceAll("\"[^\"\n]*\"", "\"\"");
        for (String word : FORBIDDEN) {
            Matcher found = Pattern.compile(word).matcher(bare);
            checks.due("the text has " + word, found.find(), false);
        }
        for (String line : bare.split("\n")) {
            checks.due("a line that is too long", line.length() <= 100, true);
            if (line.matches(".*\\bnew\\b.*") && !line.contains("throw new ")) {
                // Rows are made in constructors alone, which assign them to fields.
                checks.due("made outside a constructor: " + line.trim(),
                        line.matches("\\s+\\w+(\\[index\\])? = new \\w+(\\(\\)|\\[.*\\]);"), true);
            }
            if (line.contains("throw ")) {
                checks.due("a throw: " + line.trim(), line.matches("\\s+throw new "
                        + "Illegal(State|Argument)Exception\\(\"\"\\);|\\s+throw new "
                        + "IndexOutOfBoundsException\\(\"\"\\);"), true);
            }
        }
        for (char sign : source.toCharArray()) {
            if (sign > 126) {
                checks.due("a sign beyond 126", sign, 126);
            }
        }
    }
}
