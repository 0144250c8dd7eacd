import java.io.IOException;
import java.io.UncheckedIOException;
import java.lang.reflect.Field;
import java.lang.reflect.Method;
import java.lang.reflect.Modifier;
import java.nio.file.Files;
import java.nio.file.Path;
import java.util.List;
import java.util.regex.Matcher;
import java.util.regex.Pattern;

/** What README.md shows is what the class answers, and README.md tells every call and code. */
public final class ReadmeTest extends Checks {
    private static final Pattern CALL = Pattern.compile("x\\.(\\w+)\\(([\\d, ]*)\\); +// (-?\\w+)(:.*)?");

    public static void main(String[] args) {
        test("the example", ReadmeTest::example);
        test("every call", ReadmeTest::everyCall);
        test("every code", ReadmeTest::everyCode);
        finish();
    }

    private static List<String> readme() {
        try {
            return Files.readAllLines(Path.of("README.md"));
        } catch (IOException e) {
            throw new UncheckedIOException(e);
        }
    }

    private static void example() {
        List<String> all = readme();
        List<String> rest = all.subList(all.indexOf("```java") + 1, all.size());
        List<String> shown = rest.subList(0, rest.indexOf("```"));
        due("the first line", shown.get(0), "RegexCaptures x = new RegexCaptures();");
        RegexCaptures x = new RegexCaptures();
        for (String line : shown.subList(1, shown.size())) {
            if (!line.isEmpty()) {
                oneCall(x, line);
            }
        }
    }

    private static void oneCall(RegexCaptures x, String line) {
        Matcher call = CALL.matcher(line);
        if (!call.matches()) {
            due(line, "not a call with its answer", "one");
            return;
        }
        String[] told = call.group(2).isEmpty() ? new String[0] : call.group(2).split(", ");
        Object[] arguments = new Object[told.length];
        Class<?>[] types = new Class<?>[told.length];
        for (int k = 0; k < told.length; k++) {
            arguments[k] = Integer.valueOf(told[k]);
            types[k] = int.class;
        }
        try {
            Object answer = RegexCaptures.class.getMethod(call.group(1), types).invoke(x, arguments);
            due(line, "" + answer, call.group(3));
        } catch (ReflectiveOperationException e) {
            throw new IllegalStateException(line, e);
        }
    }

    private static void everyCall() {
        String all = String.join(" ", readme());
        for (Method m : RegexCaptures.class.getDeclaredMethods()) {
            if (Modifier.isPublic(m.getModifiers())) {
                due(m.getName(), all.contains("| `" + m.getName() + "("), true);
            }
        }
    }

    private static void everyCode() {
        String all = String.join(" ", readme());
        for (Field f : RegexCaptures.class.getFields()) {
            try {
                String told = "`" + f.getName() + "` (" + f.get(null) + ")";
                due(told, all.contains(told), true);
            } catch (IllegalAccessException e) {
                throw new IllegalStateException(e);
            }
        }
    }
}
