import java.lang.reflect.Method;
import java.lang.reflect.Modifier;
import java.nio.file.Files;
import java.nio.file.Path;
import java.util.List;
import java.util.regex.Matcher;
import java.util.regex.Pattern;

/** README.md: its calls answer what it says, and it names each call and each test. */
public final class ReadmeTest {
    private static final Pattern CALL = Pattern.compile("(x\\.(\\w+)\\((.*?)\\)|Check\\.tell\\(x, text\\)); *// (-?\\d+).*");

    private RutWays x;
    private String text = "";
    private int calls;

    private ReadmeTest() {
    }

    public static void main(String[] args) throws Exception {
        List<String> lines = Files.readAllLines(Path.of("README.md"));
        ReadmeTest readme = new ReadmeTest();
        readme.goThrough(lines);
        Check.holds("README.md has calls with answers", readme.calls > 0);
        namesAll(String.join("\n", lines));
        Check.end();
    }

    private void goThrough(List<String> lines) throws Exception {
        String block = "";
        for (String line : lines) {
            if (line.startsWith("```")) {
                block = line.substring(3);
                text = block.equals("text") ? "" : text;
            } else if (block.equals("text")) {
                text += line + "\n";
            } else if (block.equals("java")) {
                code(line);
            }
        }
    }

    private void code(String line) throws Exception {
        if (line.equals("RutWays x = new RutWays();")) {
            x = new RutWays();
        } else if (!line.startsWith("//")) {
            Matcher call = CALL.matcher(line);
            boolean told = call.matches();
            Check.holds("README.md, a call and its answer: " + line, told);
            if (told) {
                calls++;
                long want = Long.parseLong(call.group(4));
                Check.due("README.md: " + line, call.group(2) == null ? Check.tell(x, text) : answer(call.group(2), call.group(3)), want);
            }
        }
    }

    private long answer(String name, String numbers) throws Exception {
        String[] given = numbers.isEmpty() ? new String[0] : numbers.split(", ");
        Method method = methodOf(name);
        Object[] with = new Object[given.length];
        for (int i = 0; i < given.length; i++) {
            long number = Long.decode(given[i]);
            with[i] = method.getParameterTypes()[i] == int.class ? (Object) (int) number : (Object) number;
        }
        return ((Number) method.invoke(x, with)).longValue();
    }

    private static Method methodOf(String name) {
        for (Method m : RutWays.class.getDeclaredMethods()) {
            if (Modifier.isPublic(m.getModifiers()) && m.getName().equals(name)) {
                return m;
            }
        }
        throw new IllegalArgumentException("README.md names a call that there isn't: " + name);
    }

    private static void namesAll(String page) throws Exception {
        for (Method m : RutWays.class.getDeclaredMethods()) {
            if (Modifier.isPublic(m.getModifiers())) {
                Check.holds("README.md names the call " + m.getName(), page.contains("`" + m.getName() + "`"));
            }
        }
        try (var files = Files.list(Path.of("src/test/java"))) {
            for (Path file : (Iterable<Path>) files::iterator) {
                String name = file.getFileName().toString();
                if (name.endsWith("Test.java")) {
                    Check.holds("README.md names " + name, page.contains("`" + name.substring(0, name.length() - 5) + "`"));
                }
            }
        }
        Check.holds("README.md says how to run the tests", page.contains(".ci/run"));
    }
}
