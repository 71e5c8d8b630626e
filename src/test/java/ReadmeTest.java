import java.io.IOException;
import java.lang.reflect.Method;
import java.lang.reflect.Modifier;
import java.nio.file.Files;
import java.nio.file.Path;
import java.util.TreeMap;
import java.util.TreeSet;
import java.util.regex.Matcher;
import java.util.regex.Pattern;

/** The examples of README.md answer what they say, and every call of the face has one. */
public final class ReadmeTest {
    private static final Pattern EXAMPLE = Pattern.compile("(?s)```java\\n(.*?)```");
    private static final Pattern CALL = Pattern.compile("x\\.([a-z]+)\\(([^)]*)\\);");
    private static final Pattern ANSWER = Pattern.compile("// (-?[0-9]+|[A-Z_]+)(: .*)?$");
    private static final String MAKING = "FactorBranches x = new FactorBranches();";

    private static final TreeMap<String, Method> methods = new TreeMap<>();
    private static final TreeSet<String> shown = new TreeSet<>();
    private static FactorBranches x = new FactorBranches();
    private static int lines = 0;
    private static int wrong = 0;

    public static void main(String[] args) throws IOException, ReflectiveOperationException {
        for (Method method : FactorBranches.class.getDeclaredMethods()) {
            if (Modifier.isPublic(method.getModifiers())) methods.put(method.getName(), method);
        }
        Matcher example = EXAMPLE.matcher(Files.readString(Path.of("README.md")));
        while (example.find()) {
            for (String line : example.group(1).split("\n")) if (!line.isEmpty()) follow(line);
        }
        if (!shown.equals(methods.keySet())) fault("not every call has an example", shown.toString());
        System.out.println(lines + " lines of examples, " + wrong + " wrong");
        if (wrong != 0) System.exit(1);
    }

    private static void fault(String text, String line) {
        wrong++;
        System.out.println(text + ": " + line);
    }

    private static void follow(String line) throws ReflectiveOperationException {
        lines++;
        if (line.equals(MAKING)) {
            x = new FactorBranches();
            return;
        }
        int comment = line.indexOf(" //");
        String code = comment < 0 ? line : line.substring(0, comment);
        if (!CALL.matcher(code).replaceAll("").isBlank()) fault("this is no call", line);
        int got = 0;
        Matcher call = CALL.matcher(code);
        while (call.find()) {
            if (got < 0) fault("a call before the last one fails", line);
            got = answer(call.group(1), call.group(2));
        }
        Matcher due = ANSWER.matcher(line);
        boolean told = due.find();
        if (comment >= 0 && !told) fault("the comment begins with no answer", line);
        if (told ? got != number(due.group(1)) : got < 0) fault("the answer is " + got, line);
    }

    private static int answer(String name, String arguments) throws ReflectiveOperationException {
        shown.add(name);
        String[] parts = arguments.isEmpty() ? new String[0] : arguments.split(", ");
        Object[] numbers = new Object[parts.length];
        for (int i = 0; i < parts.length; i++) numbers[i] = number(parts[i]);
        return (int) methods.get(name).invoke(x, numbers);
    }

    /** A number, a character or a constant of the face. */
    private static int number(String text) throws ReflectiveOperationException {
        if (text.matches("'.'")) return text.charAt(1);
        if (text.matches("-?[0-9]+")) return Integer.parseInt(text);
        return FactorBranches.class.getField(text).getInt(null);
    }
}
