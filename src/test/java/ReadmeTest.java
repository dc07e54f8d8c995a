import java.lang.reflect.Method;
import java.lang.reflect.Modifier;
import java.nio.file.Files;
import java.nio.file.Path;
import java.util.HashMap;
import java.util.Map;
import java.util.TreeSet;
import java.util.regex.Matcher;
import java.util.regex.Pattern;

/** Makes the calls that README.md shows, and looks whether it names every call and every test. */
public final class ReadmeTest {
    private static final Path README = Path.of("README.md");
    private static final Path TESTS = Path.of("src/test/java");
    private static final Pattern NEW = Pattern.compile("ShunLots bench = new ShunLots\\((\\d+)\\);");
    private static final Pattern CALL = Pattern.compile("bench\\.(\\w+)\\(([^)]*)\\); +// -> (-?\\w+)(?:: .*)?");

    private static final Map<String, Method> methods = new HashMap<>();
    private static final TreeSet<String> shown = new TreeSet<>();
    private static int wrong = 0;

    private static void complain(String text) {
        wrong++;
        System.out.println(text);
    }

    private static void readMethods() {
        for (Method method : ShunLots.class.getDeclaredMethods()) {
            if (Modifier.isPublic(method.getModifiers())) {
                methods.put(method.getName(), method);
            }
        }
    }

    private static Object[] arguments(Method method, String text) {
        String[] words = text.split(", ");
        Class<?>[] types = method.getParameterTypes();
        if (words.length != types.length) {
            return null;
        }
        Object[] values = new Object[types.length];
        for (int at = 0; at < types.length; at++) {
            if (types[at] == long.class) {
                values[at] = Long.parseLong(words[at].replace("L", ""));
            } else {
                values[at] = Integer.parseInt(words[at]);
            }
        }
        return values;
    }

    private static void makeCall(ShunLots bench, String line) throws Exception {
        Matcher call = CALL.matcher(line);
        if (!call.matches()) {
            complain("no call with an answer: " + line);
            return;
        }
        Method method = methods.get(call.group(1));
        Object[] values = method == null ? null : arguments(method, call.group(2));
        if (values == null || bench == null) {
            complain("no such call: " + line);
            return;
        }
        shown.add(method.getName());
        String answer = String.valueOf(method.invoke(bench, values));
        if (!answer.equals(call.group(3))) {
            complain(line + " answered " + answer);
        }
    }

    private static void makeCalls(String readme) throws Exception {
        boolean inJava = false;
        ShunLots bench = null;
        for (String line : readme.split("\n")) {
            if (line.startsWith("```")) {
                inJava = line.equals("```java");
                bench = null;
            } else if (inJava) {
                Matcher made = NEW.matcher(line);
                if (made.matches()) {
                    bench = new ShunLots(Integer.parseInt(made.group(1)));
                } else {
                    makeCall(bench, line);
                }
            }
        }
        if (!shown.equals(new TreeSet<>(methods.keySet()))) {
            complain("README.md shows only " + shown);
        }
    }

    private static void findTests(String readme) throws Exception {
        try (var files = Files.newDirectoryStream(TESTS, "*.java")) {
            for (Path file : files) {
                if (!readme.contains("`src/test/java/" + file.getFileName() + "`")) {
                    complain("README.md does not name " + file);
                }
            }
        }
        if (!readme.contains("\n.ci/run\n")) {
            complain("README.md does not say how to run the tests");
        }
    }

    public static void main(String[] args) throws Exception {
        readMethods();
        String readme = Files.readString(README);
        makeCalls(readme);
        findTests(readme);
        System.out.println(wrong == 0 ? "README.md holds" : wrong + " things in README.md do not hold");
        if (wrong != 0) {
            System.exit(1);
        }
    }
}
