import java.io.IOException;
import java.lang.reflect.InvocationTargetException;
import java.lang.reflect.Method;
import java.lang.reflect.Modifier;
import java.nio.file.Files;
import java.nio.file.Path;
import java.util.regex.Matcher;
import java.util.regex.Pattern;

/** What README.md tells: each answer behind a call in its examples, and each call and test by its name. */
public final class ReadmeTest {
    private static final Pattern FEED = Pattern.compile("// feed: (.*)");
    private static final Pattern CALL = Pattern.compile("x\\.(\\w+)\\(([^)]*)\\); +// (-?\\w+).*");

    private final Checks c = new Checks();
    private final String readme;
    private SoulRaffle x = new SoulRaffle();

    private ReadmeTest(String readme) {
        this.readme = readme;
    }

    public static void main(String[] args) throws IOException, ReflectiveOperationException {
        ReadmeTest t = new ReadmeTest(Files.readString(Path.of("README.md")));
        t.examples();
        t.namesOfCalls();
        t.namesOfTests();
        t.c.end("ReadmeTest");
    }

    private void examples() throws ReflectiveOperationException {
        boolean isExample = false;
        int calls = 0;
        for (String line : readme.split("\n")) {
            if (line.startsWith("```")) {
                isExample = line.equals("```java");
            } else if (isExample) {
                calls += follow(line);
            }
        }
        c.is("calls in examples", calls > 20, true);
    }

    /** How many calls the line has. */
    private int follow(String line) throws ReflectiveOperationException {
        Matcher feed = FEED.matcher(line);
        Matcher call = CALL.matcher(line);
        if (line.equals("SoulRaffle x = new SoulRaffle();")) {
            x = new SoulRaffle();
        } else if (feed.matches()) {
            Checks.feed(x, feed.group(1));
        } else if (call.matches()) {
            answer(line, call.group(1), call.group(2), call.group(3));
            return 1;
        } else {
            c.is("'" + line + "' is an example", false, true);
        }
        return 0;
    }

    private void answer(String line, String name, String arguments, String due) throws ReflectiveOperationException {
        String[] told = arguments.isEmpty() ? new String[0] : arguments.split(", ");
        Object[] row = new Object[told.length];
        Class<?>[] types = new Class<?>[told.length];
        for (int i = 0; i < row.length; i++) {
            boolean isNumber = told[i].matches("-?\\d+");
            types[i] = isNumber ? int.class : boolean.class;
            row[i] = isNumber ? (Object) Integer.valueOf(told[i]) : (Object) Boolean.valueOf(told[i]);
        }
        try {
            String got = String.valueOf(SoulRaffle.class.getMethod(name, types).invoke(x, row));
            c.is(line + " (it answered " + got + ")", got.equals(due), true);
        } catch (InvocationTargetException e) {
            c.is(line + " (it threw " + e.getCause() + ")", false, true);
        }
    }

    private void namesOfCalls() {
        for (Method method : SoulRaffle.class.getDeclaredMethods()) {
            if (Modifier.isPublic(method.getModifiers())) {
                c.is("README.md names " + method.getName(), readme.contains("`" + method.getName() + "`"), true);
            }
        }
    }

    private void namesOfTests() throws IOException {
        try (var files = Files.list(Path.of("src", "test", "java"))) {
            for (Path file : (Iterable<Path>) files::iterator) {
                String name = file.getFileName().toString();
                if (name.endsWith("Test.java")) {
                    c.is("README.md names " + name, readme.contains("`" + name.substring(0, name.length() - 5) + "`"), true);
                }
            }
        }
    }
}
