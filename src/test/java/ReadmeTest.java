import java.lang.reflect.Method;
import java.lang.reflect.Modifier;
import java.nio.file.Files;
import java.nio.file.Path;
import java.util.HashMap;
import java.util.HashSet;
import java.util.List;
import java.util.Map;
import java.util.Set;
import java.util.regex.Matcher;
import java.util.regex.Pattern;
import java.util.stream.Stream;

/** Does the calls that README.md shows, in its order, and compares the answers with those it shows. */
public final class ReadmeTest {
    private static final Path README = Path.of("README.md");
    private static final Path TESTS = Path.of("src", "test", "java");

    private static final Pattern BLOCK = Pattern.compile("(?ms)^```(\\w+)\n(.*?)^```$");
    private static final Pattern NEW = Pattern.compile("DamageScreen screen = new DamageScreen\\(\\); +// \\S.*");
    private static final Pattern CALL =
        Pattern.compile("(?:int (\\w+) = )?screen\\.(\\w+)\\(([^()]*)\\); +// (-?\\d+): \\S.*");

    private static final Map<String, Method> methods = new HashMap<>();
    private static final Map<String, Integer> names = new HashMap<>();
    private static final Set<String> called = new HashSet<>();
    private static DamageScreen screen;

    public static void main(String[] args) throws Exception {
        for (Method method : DamageScreen.class.getDeclaredMethods()) {
            if (Modifier.isPublic(method.getModifiers())) {
                methods.put(method.getName(), method);
            }
        }
        String readme = Files.readString(README);
        doBlocks(readme);
        Check.isTrue("every method is shown, of " + methods.keySet() + " are " + called,
            called.equals(methods.keySet()));
        everyTestIsNamed(readme);
        Check.end();
    }

    private static void doBlocks(String readme) throws Exception {
        Matcher block = BLOCK.matcher(readme);
        while (block.find()) {
            List<String> lines = block.group(2).lines().toList();
            if (block.group(1).equals("java")) {
                for (String line : lines) {
                    doLine(line);
                }
            } else {
                Check.due("rows of the picture", 10, lines.size());
                Check.owners("the picture", screen, lines.toArray(new String[10]));
            }
        }
    }

    private static void doLine(String line) throws Exception {
        Matcher call = CALL.matcher(line);
        if (NEW.matcher(line).matches()) {
            screen = new DamageScreen();
            names.clear();
        } else if (call.matches() && methods.containsKey(call.group(2))) {
            int answer = doCall(methods.get(call.group(2)), call.group(3).split(", "));
            Check.due(line, Integer.parseInt(call.group(4)), answer);
            if (call.group(1) != null) {
                Check.isTrue("a name stands for one window: " + line, names.put(call.group(1), answer) == null);
            }
        } else {
            Check.isTrue("a call with its answer: " + line, false);
        }
    }

    private static int doCall(Method method, String[] texts) throws Exception {
        called.add(method.getName());
        Class<?>[] types = method.getParameterTypes();
        Object[] values = new Object[texts.length];
        for (int at = 0; at < texts.length; at++) {
            values[at] = types[at] == boolean.class ? truthOf(texts[at]) : numberOf(texts[at]);
        }
        return (int) method.invoke(screen, values);
    }

    private static Object truthOf(String text) {
        Check.isTrue(text + " is true or false", text.equals("true") || text.equals("false"));
        return text.equals("true");
    }

    private static Object numberOf(String text) {
        return names.containsKey(text) ? names.get(text) : Integer.decode(text);
    }

    private static void everyTestIsNamed(String readme) throws Exception {
        try (Stream<Path> files = Files.list(TESTS)) {
            for (Path file : files.toList()) {
                String name = file.getFileName().toString().replace(".java", "");
                boolean helper = !name.endsWith("Test");
                Check.isTrue("README.md names " + name, helper || readme.contains("`" + name + "`"));
            }
        }
    }
}
