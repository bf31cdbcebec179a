import java.io.IOException;
import java.lang.reflect.Method;
import java.nio.file.Files;
import java.nio.file.Path;
import java.util.regex.Matcher;
import java.util.regex.Pattern;

/** Makes the calls of README.md's example, line by line; each must answer what the line says. */
public final class ReadmeTest {
    private static final Pattern CALL = Pattern.compile("x\\.(\\w+)\\((.*)\\); +// .*answers (\\w+).*");

    public static void main(String[] args) throws IOException, ReflectiveOperationException {
        Checks checks = new Checks();
        String readme = Files.readString(Path.of("README.md"));
        int start = readme.indexOf("```java\n");
        int stop = readme.indexOf("```\n", start + 1);
        String[] lines = start < 0 || stop < 0 ? new String[] {""} : readme.substring(start + 8, stop).split("\n");
        checks.due("first line of the example", lines[0], "InductionProver x = new InductionProver();");
        InductionProver x = new InductionProver();
        for (int n = 1; n < lines.length; n++) {
            Matcher call = CALL.matcher(lines[n]);
            checks.due("is a call with its answer: " + lines[n], call.matches(), true);
            if (call.matches()) {
                checks.due(lines[n], answer(x, call.group(1), call.group(2)), valueOf(call.group(3)));
            }
        }
        checks.end();
    }

    private static int answer(InductionProver x, String name, String arguments) throws ReflectiveOperationException {
        String[] words = arguments.isEmpty() ? new String[0] : arguments.split(", ");
        Object[] values = new Object[words.length];
        for (int n = 0; n < words.length; n++) {
            values[n] = valueOf(words[n]);
        }
        for (Method method : InductionProver.class.getMethods()) {
            if (method.getName().equals(name)) {
                Object got = method.invoke(x, values);
                return got instanceof Boolean stored ? stored ? 1 : 0 : (Integer) got;
            }
        }
        throw new NoSuchMethodException(name);
    }

    private static int valueOf(String word) throws ReflectiveOperationException {
        String name = word.replace("InductionProver.", "");
        if (name.equals("true") || name.equals("false")) {
            return name.equals("true") ? 1 : 0;
        }
        boolean number = Character.isDigit(name.charAt(0));
        return number ? Integer.decode(name) : InductionProver.class.getField(name).getInt(null);
    }
}
