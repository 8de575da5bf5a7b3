import java.io.File;
import java.io.IOException;
import java.lang.reflect.Method;
import java.lang.reflect.Modifier;
import java.nio.file.Files;
import java.nio.file.Path;
import java.util.regex.Matcher;
import java.util.regex.Pattern;

/** README.md is true: its calls answer what it says, and it names every call of the face and every test. */
public final class ReadmeTest {
    private static final Pattern FED = Pattern.compile("feed\\(x, \"([^\"]*)\"\\);");
    private static final Pattern CALL = Pattern.compile("x\\.(\\w+)\\(([0-9, -]*)\\); +// (-?\\d+|true|false)\\b.*");
    private static final int CALLS = 19;

    public static void main(String[] args) throws IOException, ReflectiveOperationException {
        String page = Files.readString(Path.of("README.md"));
        checkCalls(page);
        for (Method m : MustardPast.class.getDeclaredMethods()) {
            if (Modifier.isPublic(m.getModifiers())) {
                Check.due("README.md names " + m.getName(), page.contains("`" + m.getName() + "`"), true);
            }
        }
        String[] files = new File("src/test/java").list();
        for (String file : files == null ? new String[0] : files) {
            if (file.endsWith("Test.java")) {
                String name = file.substring(0, file.length() - ".java".length());
                Check.due("README.md has a row for " + name, page.contains("\n| " + name + " |"), true);
            }
        }
        Check.end();
    }

    private static void checkCalls(String page) throws ReflectiveOperationException {
        MustardPast x = new MustardPast();
        int calls = 0;
        for (String line : page.split("\n")) {
            Matcher fed = FED.matcher(line);
            Matcher call = CALL.matcher(line);
            if (fed.matches()) {
                Check.feed(x, fed.group(1));
            } else if (call.matches()) {
                Check.due(line, answer(x, call.group(1), call.group(2)).equals(call.group(3)), true);
                calls++;
            }
        }
        Check.due("calls that README.md tells", calls, CALLS);
    }

    private static String answer(MustardPast x, String name, String numbers) throws ReflectiveOperationException {
        String[] given = numbers.isEmpty() ? new String[0] : numbers.split(", ");
        Class<?>[] types = new Class<?>[given.length];
        Object[] values = new Object[given.length];
        for (int i = 0; i < given.length; i++) {
            types[i] = int.class;
            values[i] = Integer.valueOf(given[i]);
        }
        return String.valueOf(MustardPast.class.getMethod(name, types).invoke(x, values));
    }
}
