import java.io.IOException;
import java.lang.reflect.InvocationTargetException;
import java.lang.reflect.Method;
import java.lang.reflect.Modifier;
import java.nio.file.Files;
import java.nio.file.Path;
import java.util.regex.Matcher;
import java.util.regex.Pattern;

/** README.md answers what the class answers: its run of calls, its names of calls and tests. */
public final class ReadmeTest {
    private static final Pattern TEXT = Pattern.compile("for \\(char letter : \"([^\"]*)\"");
    private static final Pattern CALL = Pattern.compile("^jar\\.(\\w+)\\(([^)]*)\\); +// (-?\\d+)", Pattern.MULTILINE);

    public static void main(String[] args) throws IOException, ReflectiveOperationException {
        Check c = new Check();
        c.about("README.md");
        String readme = Files.readString(Path.of("README.md"));
        run(c, readme);
        names(c, readme);
        tests(c, readme);
        c.end("ReadmeTest");
    }

    private static void run(Check c, String readme) throws ReflectiveOperationException {
        SeaJar jar = new SeaJar();
        Matcher text = TEXT.matcher(readme);
        c.holds("has a house's text", text.find());
        for (char letter : text.group(1).toCharArray()) {
            jar.type(letter);
        }
        Matcher call = CALL.matcher(readme);
        int calls = 0;
        while (call.find()) {
            calls++;
            c.due(call.group(1) + "(" + call.group(2) + ")", answer(jar, call.group(1), call.group(2)),
                Long.parseLong(call.group(3)));
        }
        c.holds("has a run of calls", calls >= 20);
    }

    private static long answer(SeaJar jar, String name, String args) throws ReflectiveOperationException {
        String[] parts = args.isEmpty() ? new String[0] : args.split(", ");
        for (Method method : SeaJar.class.getDeclaredMethods()) {
            if (method.getName().equals(name) && Modifier.isPublic(method.getModifiers())) {
                return (int) method.invoke(jar, values(method, parts));
            }
        }
        throw new NoSuchMethodException(name);
    }

    private static Object[] values(Method method, String[] parts) {
        Object[] values = new Object[parts.length];
        for (int k = 0; k < parts.length; k++) {
            boolean wide = method.getParameterTypes()[k] == long.class;
            values[k] = wide ? (Object) Long.valueOf(parts[k]) : (Object) Integer.valueOf(parts[k]);
        }
        return values;
    }

    private static void names(Check c, String readme) {
        for (Method method : SeaJar.class.getDeclaredMethods()) {
            if (Modifier.isPublic(method.getModifiers())) {
                c.holds("tells of " + method.getName(), readme.contains("`" + method.getName() + "("));
            }
        }
    }

    private static void tests(Check c, String readme) throws IOException {
        try (var files = Files.list(Path.of("src/test/java"))) {
            files.map(file -> file.getFileName().toString())
                .filter(name -> name.endsWith("Test.java"))
                .map(name -> name.replace(".java", ""))
                .forEach(name -> c.holds("tells of " + name, readme.contains("| " + name + " |")));
        }
    }
}
