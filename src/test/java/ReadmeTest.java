import java.io.File;
import java.io.IOException;
import java.lang.reflect.Method;
import java.lang.reflect.Modifier;
import java.nio.file.Files;
import java.nio.file.Path;
import java.util.regex.Matcher;
import java.util.regex.Pattern;

/** The README's example answers what the page says, and the page names every call and test. */
public final class ReadmeTest {
    private static final Check CHECK = new Check();
    private static final Pattern TEXT = Pattern.compile("for \\(char code : \"([^\"]*)\"");
    private static final Pattern CALL =
            Pattern.compile("(?m)^tide\\.(\\w+)\\(([^)]*)\\);\\s+// (-?\\d+):");

    public static void main(String[] args) throws IOException, ReflectiveOperationException {
        String page = Files.readString(Path.of("README.md"));
        example(page);
        names(page);
        CHECK.end("ReadmeTest");
    }

    private static void yes(String what, boolean is) {
        CHECK.due(what, is ? 1 : 0, 1);
    }

    private static void example(String page) throws ReflectiveOperationException {
        Matcher text = TEXT.matcher(page);
        yes("the page writes a shore", text.find());
        TideAsked tide = new TideAsked();
        Check.write(tide, text.group(1));
        Matcher call = CALL.matcher(page);
        int calls = 0;
        while (call.find()) {
            calls++;
            CHECK.due("README: " + call.group(1) + "(" + call.group(2) + ")",
                    answer(tide, call.group(1), call.group(2)), Long.parseLong(call.group(3)));
        }
        CHECK.due("calls that the page shows with an answer", calls,
                Pattern.compile("(?m)^tide\\.").matcher(page).results().count());
    }

    private static long answer(TideAsked tide, String name, String numbers)
            throws ReflectiveOperationException {
        String[] parts = numbers.isEmpty() ? new String[0] : numbers.split(", ");
        Class<?>[] types = new Class<?>[parts.length];
        Object[] given = new Object[parts.length];
        for (int i = 0; i < parts.length; i++) {
            types[i] = int.class;
            given[i] = Integer.parseInt(parts[i]);
        }
        Method method = TideAsked.class.getMethod(name, types);
        return ((Number) method.invoke(tide, given)).longValue();
    }

    private static void names(String page) {
        for (Method method : TideAsked.class.getDeclaredMethods()) {
            if (Modifier.isPublic(method.getModifiers())) {
                yes("README names " + method.getName(), page.contains("`" + method.getName() + "`"));
            }
        }
        File[] tests = new File("src/test/java").listFiles();
        yes("there are tests", tests != null && tests.length > 0);
        for (File test : tests == null ? new File[0] : tests) {
            String name = test.getName().replace(".java", "");
            yes("README names " + name, !name.endsWith("Test") || page.contains("`" + name + "`"));
        }
        yes("README tells how to run the tests", page.contains("bash .ci/run"));
    }
}
