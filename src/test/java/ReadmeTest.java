import java.io.IOException;
import java.nio.file.Files;
import java.nio.file.Path;
import java.util.regex.Matcher;
import java.util.regex.Pattern;

/** The calls that README.md shows give the answers that it tells; .ci/run starts it in the project's folder. */
public final class ReadmeTest {
    private static final int MOST_CALLS = 512;

    public static void main(String[] args) throws IOException, ReflectiveOperationException {
        Check check = new Check("ReadmeTest");
        String readme = Files.readString(Path.of("README.md"));
        String run = first(readme, "(?s)```java\n(.*?)```");
        SyntaxRepair x = new SyntaxRepair();
        Check.type(x, first(run, "String text = \"([^\"]*)\";"));
        // A call on a line of its own, then its answer if one is told: a number or a constant.
        Matcher calls = Pattern.compile("(?m)^repair\\.(\\w+)\\(([^()]*)\\); *(?:// (-?\\d+|[A-Z_]+)\\b)?").matcher(run);
        int told = 0;
        for (int i = 0; i < MOST_CALLS && calls.find(); i++) {
            int got = call(x, calls.group(1), calls.group(2));
            if (calls.group(3) != null) {
                told++;
                check.due(calls.group(1) + "(" + calls.group(2) + ")", got, value(calls.group(3)));
            }
        }
        check.due("answers that README.md tells, ten at least", Math.min(told, 10), 10);
        check.due("README.md says how to run the tests", readme.contains(".ci/run") ? 1 : 0, 1);
        check.end();
    }

    private static String first(String text, String pattern) {
        Matcher matcher = Pattern.compile(pattern).matcher(text);
        if (!matcher.find()) {
            throw new IllegalStateException("README.md has nothing like " + pattern);
        }
        return matcher.group(1);
    }

    private static int value(String told) throws ReflectiveOperationException {
        return told.matches("-?\\d+") ? Integer.parseInt(told) : SyntaxRepair.class.getField(told).getInt(null);
    }

    private static int call(SyntaxRepair x, String name, String arguments) throws ReflectiveOperationException {
        String[] parts = arguments.isBlank() ? new String[0] : arguments.split(", *");
        Class<?>[] types = new Class<?>[parts.length];
        Object[] values = new Object[parts.length];
        for (int i = 0; i < parts.length; i++) {
            types[i] = int.class;
            values[i] = value(parts[i]);
        }
        return (int) SyntaxRepair.class.getMethod(name, types).invoke(x, values);
    }
}
