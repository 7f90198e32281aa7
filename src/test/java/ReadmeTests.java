import java.lang.reflect.Method;
import java.nio.charset.StandardCharsets;
import java.nio.file.DirectoryStream;
import java.nio.file.Files;
import java.nio.file.Path;
import java.util.HashSet;
import java.util.Set;
import java.util.regex.Matcher;
import java.util.regex.Pattern;

/** README.md tells the truth: its calls, made in their order, answer what stands beside them. */
public final class ReadmeTests extends Checks {
    private static final Pattern TEXT = Pattern.compile("for \\(char c : \"([^\"]*)\"\\.toCharArray\\(\\)\\) x\\.write\\(1, c\\);");
    private static final Pattern CALL = Pattern.compile("x\\.(\\w+)\\(([^)]*)\\);\\s*// (-?\\d+).*");

    public static void main(String[] args) throws Exception {
        String page = Files.readString(Path.of("README.md"), StandardCharsets.UTF_8);
        Set<String> called = new HashSet<>();
        theExample(page, called);
        everyCallIsShown(called);
        everyTestIsNamed(page);
        end("README.md tells the truth");
    }

    private static void theExample(String page, Set<String> called) throws Exception {
        int from = page.indexOf("```java\n");
        int to = page.indexOf("\n```\n", Math.max(0, from));
        due("README.md has an example", from >= 0 && to > from ? 1 : 0, 1);
        String example = from >= 0 && to > from ? page.substring(from + 8, to) : "";
        SaidWoven x = null;
        for (String line : example.split("\n")) {
            Matcher text = TEXT.matcher(line);
            Matcher call = CALL.matcher(line);
            if (line.equals("SaidWoven x = new SaidWoven();")) {
                x = new SaidWoven();
            } else if (text.matches()) {
                for (char c : text.group(1).toCharArray()) {
                    x.write(1, c);
                }
                called.add("write");
            } else if (call.matches()) {
                due("README.md: " + line, answer(x, call.group(1), call.group(2)), Long.parseLong(call.group(3)));
                called.add(call.group(1));
            } else {
                due("a line of README.md that says nothing: " + line, line.isEmpty() || line.startsWith("// ") ? 1 : 0, 1);
            }
        }
    }

    private static long answer(SaidWoven x, String name, String told) throws Exception {
        String[] parts = told.isEmpty() ? new String[0] : told.split(", ");
        for (Method m : SaidWoven.class.getMethods()) {
            if (m.getName().equals(name) && m.getParameterCount() == parts.length) {
                Object[] values = new Object[parts.length];
                for (int i = 0; i < parts.length; i++) {
                    values[i] = value(m.getParameterTypes()[i], parts[i]);
                }
                return ((Number) m.invoke(x, values)).longValue();
            }
        }
        throw new IllegalStateException("README.md calls what is not there: " + name);
    }

    private static Object value(Class<?> type, String told) {
        if (type == boolean.class) {
            return Boolean.parseBoolean(told);
        }
        return type == long.class ? (Object) Long.parseLong(told) : (Object) Integer.parseInt(told);
    }

    private static void everyCallIsShown(Set<String> called) {
        for (Method m : SaidWoven.class.getDeclaredMethods()) {
            if (java.lang.reflect.Modifier.isPublic(m.getModifiers())) {
                due("README.md shows " + m.getName(), called.contains(m.getName()) ? 1 : 0, 1);
            }
        }
    }

    private static void everyTestIsNamed(String page) throws Exception {
        try (DirectoryStream<Path> tests = Files.newDirectoryStream(Path.of("src/test/java"), "*.java")) {
            for (Path test : tests) {
                due("README.md names " + test, page.contains("`" + test + "`") ? 1 : 0, 1);
            }
        }
        Matcher named = Pattern.compile("`(src/[\\w/.]+)`").matcher(page);
        while (named.find()) {
            due("there is " + named.group(1), Files.exists(Path.of(named.group(1))) ? 1 : 0, 1);
        }
    }
}
