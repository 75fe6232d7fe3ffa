import java.io.IOException;
import java.lang.reflect.InvocationTargetException;
import java.lang.reflect.Method;
import java.lang.reflect.Modifier;
import java.nio.file.Files;
import java.nio.file.Path;
import java.util.List;
import java.util.Set;
import java.util.TreeMap;
import java.util.TreeSet;
import java.util.regex.Matcher;
import java.util.regex.Pattern;

/** README.md is so: the calls that it shows answer as it says, every method is shown, and every test is named. */
public final class ReadmeTest {
    private static final Path README = Path.of("README.md");
    private static final Path TESTS = Path.of("src/test/java");
    private static final String MAKE = "TidingsDesk desk = new TidingsDesk();";
    private static final Pattern CALL =
        Pattern.compile("desk\\.(\\w+)\\(([^)]*)\\); +// (-?\\d+|true|false|NONE): .+");
    private static final int MOST_CALLS = 512;
    private static final TreeMap<String, Method> METHODS = new TreeMap<>();
    private static int wrong = 0;

    private static void complain(String what) {
        wrong++;
        System.out.println(what);
    }

    private static Object[] numbers(String list) {
        String[] parts = list.isEmpty() ? new String[0] : list.split(", ");
        Object[] numbers = new Object[parts.length];
        for (int i = 0; i < parts.length; i++) {
            boolean hex = parts[i].startsWith("0x");
            numbers[i] = hex ? Integer.parseUnsignedInt(parts[i].substring(2), 16) : Integer.parseInt(parts[i]);
        }
        return numbers;
    }

    private static void checkCall(TidingsDesk desk, int line, Matcher call) throws IllegalAccessException {
        Method method = METHODS.get(call.group(1));
        Object[] numbers = numbers(call.group(2));
        if (method == null || method.getParameterCount() != numbers.length) {
            complain("line " + line + ": the class has no such method: " + call.group());
            return;
        }
        String want = call.group(3).equals("NONE") ? String.valueOf(TidingsDesk.NONE) : call.group(3);
        try {
            String got = String.valueOf(method.invoke(desk, numbers));
            if (!got.equals(want)) {
                complain("line " + line + ": " + call.group() + " -- answered " + got);
            }
        } catch (InvocationTargetException e) {
            complain("line " + line + ": " + call.group() + " -- threw " + e.getCause());
        }
    }

    /** Makes the calls of all java blocks in their order, and gives the names of the methods that were called. */
    private static Set<String> checkBlocks(List<String> lines) throws IllegalAccessException {
        Set<String> shown = new TreeSet<>();
        TidingsDesk desk = null;
        boolean inside = false;
        int calls = 0;
        for (int i = 0; i < lines.size(); i++) {
            String line = lines.get(i);
            Matcher call = CALL.matcher(line);
            if (line.startsWith("```")) {
                inside = line.equals("```java");
            } else if (inside && line.equals(MAKE)) {
                desk = new TidingsDesk();
                calls = 0;
            } else if (inside && desk != null && call.matches() && calls < MOST_CALLS) {
                calls++;
                shown.add(call.group(1));
                checkCall(desk, i + 1, call);
            } else if (inside || line.contains("desk.")) {
                complain("line " + (i + 1) + ": no call with its answer, on an object that is there: " + line);
            }
        }
        return shown;
    }

    private static void checkTestsNamed(String readme) throws IOException {
        Set<String> named = new TreeSet<>();
        Matcher name = Pattern.compile("`src/test/java/(\\w+\\.java)`").matcher(readme);
        while (name.find()) {
            named.add(name.group(1));
        }
        Set<String> there = new TreeSet<>();
        try (var files = Files.list(TESTS)) {
            files.forEach(file -> there.add(file.getFileName().toString()));
        }
        if (!named.equals(there)) {
            complain("tests named: " + named + ", tests that are there: " + there);
        }
    }

    public static void main(String[] args) throws IOException, IllegalAccessException {
        for (Method method : TidingsDesk.class.getDeclaredMethods()) {
            if (Modifier.isPublic(method.getModifiers())) {
                METHODS.put(method.getName(), method);
            }
        }
        Set<String> shown = checkBlocks(Files.readAllLines(README));
        if (!shown.equals(METHODS.keySet())) {
            complain("methods shown: " + shown + ", methods that are there: " + METHODS.keySet());
        }
        checkTestsNamed(Files.readString(README));
        System.out.println(wrong == 0 ? "README.md is as due" : wrong + " things in README.md are not as due");
        if (wrong != 0) {
            System.exit(1);
        }
    }
}
