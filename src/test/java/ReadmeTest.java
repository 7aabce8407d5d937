import java.io.IOException;
import java.lang.reflect.Method;
import java.nio.file.Files;
import java.nio.file.Path;
import java.util.Set;
import java.util.TreeSet;
import java.util.regex.Matcher;
import java.util.regex.Pattern;

/** README.md: the answers told behind the calls of its examples are the right ones, and each call of the class is told. */
public final class ReadmeTest {
    private static final Checks CHECKS = new Checks();
    private static final Pattern CALL = Pattern.compile("^x\\.(\\w+)\\(([^)]*)\\);(?:\\s*// (-?\\d+|true|false)\\b.*)?");

    public static void main(String[] args) throws ReflectiveOperationException, IOException {
        String readme = Files.readString(Path.of("README.md"));
        Matcher blocks = Pattern.compile("(?s)```java\n(.*?)```").matcher(readme);
        Set<String> shown = new TreeSet<>();
        while (blocks.find()) {
            runExample(blocks.group(1), shown);
        }
        CHECKS.due("some answers are shown", shown.size() > 10, true);
        for (Method method : HandleFaces.class.getDeclaredMethods()) {
            if (java.lang.reflect.Modifier.isPublic(method.getModifiers())) {
                CHECKS.due(method.getName() + " is told", readme.contains("`" + method.getName() + "("), true);
            }
        }
        CHECKS.due(".ci/run is told", readme.contains("`.ci/run`"), true);
        testsAreTold(readme);
        CHECKS.end();
    }

    private static void runExample(String example, Set<String> shown) throws ReflectiveOperationException {
        HandleFaces x = null;
        for (String row : example.split("\n")) {
            if (row.startsWith("HandleFaces x = new HandleFaces();")) {
                x = new HandleFaces();
                continue;
            }
            Matcher call = CALL.matcher(row);
            CHECKS.due("a call: " + row, call.find() && x != null, true);
            String answer = String.valueOf(answer(x, call.group(1), call.group(2)));
            if (call.group(3) != null) {
                CHECKS.due(row, answer, call.group(3));
                shown.add(call.group(1));
            }
        }
    }

    private static Object answer(HandleFaces x, String name, String told) throws ReflectiveOperationException {
        String[] words = told.isBlank() ? new String[0] : told.split(", ");
        for (Method method : HandleFaces.class.getDeclaredMethods()) {
            if (method.getName().equals(name) && method.getParameterCount() == words.length) {
                Object[] values = new Object[words.length];
                for (int i = 0; i < words.length; i++) {
                    values[i] = value(words[i]);
                }
                return method.invoke(x, values);
            }
        }
        return "no such call";
    }

    private static Object value(String word) {
        if (word.equals("true") || word.equals("false")) {
            return Boolean.valueOf(word);
        }
        return word.equals("HandleFaces.NONE") ? HandleFaces.NONE : Integer.decode(word);
    }

    private static void testsAreTold(String readme) throws IOException {
        try (var files = Files.list(Path.of("src/test/java"))) {
            files.map(file -> file.getFileName().toString()).filter(name -> name.endsWith("Test.java"))
                .forEach(name -> CHECKS.due(name + " is told", readme.contains("`" + name.replace(".java", "") + "`"), true));
        }
    }
}
