import java.io.IOException;
import java.lang.reflect.InvocationTargetException;
import java.lang.reflect.Method;
import java.lang.reflect.Modifier;
import java.nio.file.Files;
import java.nio.file.Path;
import java.util.Map;
import java.util.Set;
import java.util.TreeSet;
import java.util.regex.Matcher;
import java.util.regex.Pattern;

/**
 * What README.md shows as an example answers as it says there: each line of its java blocks is done, on one object
 * from its first block to its last one. A line that this test can't read is an example that nobody tried, so it
 * fails, too. Run from the project's folder.
 */
public final class ReadmeTest {
    private static final Check CHECK = new Check();
    private static final Pattern BLOCK = Pattern.compile("(?s)```java\n(.*?)```");
    private static final String NEW_OBJECT = "WovenRoads x = new WovenRoads();";
    private static final Pattern TYPED =
            Pattern.compile("for \\(char letter : \"([^\"]*)\"\\.toCharArray\\(\\)\\) x\\.type\\(letter\\);");
    private static final Pattern CALL = Pattern.compile("x\\.(\\w+)\\(([^)]*)\\); +// (-?\\w+)\\b.*");
    private static final Map<String, Integer> NAMES = Map.of("BAD", WovenRoads.BAD, "STATE", WovenRoads.STATE,
            "FULL", WovenRoads.FULL, "NONE", WovenRoads.NONE, "NO", WovenRoads.NO);

    private WovenRoads x = null;
    private int calls = 0;
    private final Set<String> shown = new TreeSet<>();

    public static void main(String[] args) throws IOException {
        String readme = Files.readString(Path.of("README.md"));
        ReadmeTest test = new ReadmeTest();
        Matcher block = BLOCK.matcher(readme);
        while (block.find()) {
            block.group(1).lines().forEach(line -> test.tryLine(line.strip()));
        }
        test.wholeFaceIsShown();
        CHECK.holds("an object is used for 512 calls at most: " + test.calls, test.calls <= 512);
        everyTestIsNamed(readme);
        CHECK.finish("ReadmeTest");
    }

    private void tryLine(String line) {
        Matcher typed = TYPED.matcher(line);
        Matcher call = CALL.matcher(line);
        if (line.equals(NEW_OBJECT)) {
            x = new WovenRoads();
            calls = 0;
        } else if (x != null && typed.matches()) {
            Check.type(x, typed.group(1));
            calls += typed.group(1).length();
            shown.add("type");
        } else if (x != null && call.matches()) {
            CHECK.due(line, answer(call.group(1), call.group(2)), number(call.group(3)));
            calls++;
            shown.add(call.group(1));
        } else {
            CHECK.holds("this line can be tried: " + line, line.isEmpty() || line.startsWith("//"));
        }
    }

    private static long number(String told) {
        return NAMES.containsKey(told) ? NAMES.get(told) : Long.parseLong(told);
    }

    private long answer(String name, String told) {
        String[] numbers = told.isBlank() ? new String[0] : told.split(", ");
        Object[] given = new Object[numbers.length];
        for (int i = 0; i < numbers.length; i++) {
            given[i] = Integer.valueOf(numbers[i]);
        }
        for (Method method : WovenRoads.class.getMethods()) {
            if (method.getName().equals(name) && method.getParameterCount() == given.length) {
                return called(method, given);
            }
        }
        throw new IllegalArgumentException("README.md shows a call that there is not: " + name);
    }

    private long called(Method method, Object[] given) {
        try {
            return ((Number) method.invoke(x, given)).longValue();
        } catch (IllegalAccessException | InvocationTargetException e) {
            throw new IllegalStateException(e);
        }
    }

    private void wholeFaceIsShown() {
        for (Method method : WovenRoads.class.getDeclaredMethods()) {
            if (Modifier.isPublic(method.getModifiers())) {
                CHECK.holds("an example shows " + method.getName(), shown.contains(method.getName()));
            }
        }
    }

    private static void everyTestIsNamed(String readme) throws IOException {
        try (var files = Files.list(Path.of("src/test/java"))) {
            for (Path file : files.sorted().toList()) {
                String name = file.getFileName().toString().replace(".java", "");
                CHECK.holds("README.md names " + name, readme.contains(name));
            }
        }
    }
}
