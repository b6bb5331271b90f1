import java.io.File;
import java.io.IOException;
import java.lang.reflect.InvocationTargetException;
import java.lang.reflect.Method;
import java.nio.file.Files;
import java.nio.file.Path;
import java.util.HashMap;
import java.util.List;
import java.util.Map;
import java.util.Set;
import java.util.TreeSet;
import java.util.regex.Matcher;
import java.util.regex.Pattern;

/** README.md: does each call that it shows, one by one, and looks whether it answers what stands behind it. */
public final class ReadmeTest {
    private static final Pattern CALL =
        Pattern.compile("(?:int (\\w+) = )?moor\\.(\\w+)\\(([^)]*)\\); *// (throws \\w+|[-\\w.]+)(?:: .*)?");
    private static final Pattern NAMED = Pattern.compile("`(\\w+Test)`");

    private static final Map<String, Integer> names = new HashMap<>();
    private static final Set<String> called = new TreeSet<>();
    private static YieldMoor moor = new YieldMoor();

    public static void main(String[] args) throws IOException, ReflectiveOperationException {
        List<String> page = Files.readAllLines(Path.of("README.md"));
        boolean shown = false;
        for (String line : page) {
            if (line.startsWith("```")) {
                shown = line.equals("```java");
            } else if (shown) {
                doShown(line);
            }
        }
        Check.that("README.md shows generators, tasks and questions: " + called,
            called.containsAll(Set.of("body", "line", "generator", "resume", "raise", "close", "start", "run", "tick",
                "cancel", "of", "ofTask", "wouldGive", "wouldClose", "overIn", "isOverBy", "left")));
        namesEachTest(page);
        Check.end("ReadmeTest");
    }

    private static void doShown(String line) throws ReflectiveOperationException {
        if (line.equals("YieldMoor moor = new YieldMoor();")) {
            moor = new YieldMoor();
            names.clear();
            return;
        }
        Matcher call = CALL.matcher(line);
        Check.that("README.md shows a call with its answer: " + line, call.matches());
        if (!call.matches()) return;
        String answer = answerOf(call.group(2), call.group(3).split(", *"));
        Check.that("README.md: " + line + " answered " + answer, answer.equals(call.group(4)));
        if (call.group(1) != null) names.put(call.group(1), Integer.valueOf(answer));
    }

    private static String answerOf(String name, String[] told) throws ReflectiveOperationException {
        called.add(name);
        int many = told[0].isEmpty() ? 0 : told.length;
        Class<?>[] types = new Class<?>[many];
        Object[] values = new Object[many];
        for (int i = 0; i < many; i++) {
            types[i] = int.class;
            values[i] = names.containsKey(told[i]) ? names.get(told[i]) : Integer.valueOf(told[i]);
        }
        Method method = YieldMoor.class.getMethod(name, types);
        try {
            return String.valueOf(method.invoke(moor, values));
        } catch (InvocationTargetException e) {
            return "throws " + e.getCause().getClass().getSimpleName();
        }
    }

    private static void namesEachTest(List<String> page) {
        Set<String> named = new TreeSet<>();
        for (String line : page) {
            Matcher matcher = NAMED.matcher(line);
            while (matcher.find()) named.add(matcher.group(1));
        }
        Set<String> there = new TreeSet<>();
        File[] files = new File("src/test/java").listFiles();
        Check.that("src/test/java is there", files != null);
        for (File file : files == null ? new File[0] : files) {
            if (file.getName().endsWith("Test.java")) there.add(file.getName().replace(".java", ""));
        }
        Check.that("README.md names " + named + ", there are " + there, named.equals(there));
    }
}
