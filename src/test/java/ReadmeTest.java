import java.io.IOException;
import java.lang.reflect.Method;
import java.nio.file.Files;
import java.nio.file.Path;
import java.util.HashMap;
import java.util.HashSet;
import java.util.Map;
import java.util.Set;
import java.util.regex.Matcher;
import java.util.regex.Pattern;

/** README.md says how to use the class: its example is called line by line, its tables are looked at. */
public final class ReadmeTest {
    private static final Pattern LINE = Pattern.compile("String line = \"([^\"]*)\";");
    private static final Pattern CALL = Pattern.compile("x\\.(\\w+)\\(([-\\d, ]*)\\);\\s*// (-?\\d+)(.*)");
    private static final Pattern TOLD = Pattern.compile("\\b(asked|upper|lower|finding)\\(\\) (-?\\d+)");
    private static final Pattern NAMED = Pattern.compile("`(\\w+)`");
    private static final int LEAST_CALLS = 10;

    public static void main(String[] args) throws IOException, ReflectiveOperationException {
        String readme = Files.readString(Path.of("README.md"));
        Map<String, Method> face = face();
        example(between(readme, "```java\n", "```"), face);
        everyCallIsNamed(between(readme, "| calls |", "\n\n"), face.keySet());
        kinds(between(readme, "| letter |", "\n\n"));
        Due.end("ReadmeTest");
    }

    private static Map<String, Method> face() {
        Map<String, Method> face = new HashMap<>();
        for (Method method : LuckJars.class.getMethods()) {
            if (method.getDeclaringClass() == LuckJars.class) {
                face.put(method.getName(), method);
            }
        }
        return face;
    }

    private static String between(String text, String ahead, String behind) {
        int start = text.indexOf(ahead);
        Due.is("README has " + ahead.trim(), start < 0 ? 0 : 1, 1);
        int end = text.indexOf(behind, Math.max(start, 0) + ahead.length());
        return start < 0 || end < 0 ? "" : text.substring(start + ahead.length(), end);
    }

    private static void example(String code, Map<String, Method> face) throws ReflectiveOperationException {
        Matcher place = LINE.matcher(code);
        Due.is("the example has a place", place.find() ? 1 : 0, 1);
        LuckJars x = new LuckJars();
        Due.write(x, 0, place.group(1));
        Matcher call = CALL.matcher(code);
        int calls = 0;
        while (call.find()) {
            String told = "README: " + call.group();
            long got = answer(x, face.get(call.group(1)), call.group(2));
            Due.is(told, got, Long.parseLong(call.group(3)));
            Matcher besides = TOLD.matcher(call.group(4));
            while (besides.find()) {
                got = answer(x, face.get(besides.group(1)), "");
                Due.is(told + ": " + besides.group(1), got, Long.parseLong(besides.group(2)));
            }
            calls++;
        }
        Due.is("the example's calls are few", calls < LEAST_CALLS ? 1 : 0, 0);
    }

    private static long answer(LuckJars x, Method call, String numbers) throws ReflectiveOperationException {
        Object[] arguments = new Object[call.getParameterCount()];
        String[] parts = numbers.split(", ");
        for (int k = 0; k < arguments.length; k++) {
            arguments[k] = Integer.parseInt(parts[k]);
        }
        return ((Number) call.invoke(x, arguments)).longValue();
    }

    private static void everyCallIsNamed(String table, Set<String> face) {
        Set<String> named = new HashSet<>();
        Matcher name = NAMED.matcher(table);
        while (name.find()) {
            Due.is("README names " + name.group(1) + " once", named.add(name.group(1)) ? 1 : 0, 1);
        }
        for (String call : face) {
            Due.is("README names " + call, named.remove(call) ? 1 : 0, 1);
        }
        Due.is("README names no other: " + named, named.size(), 0);
    }

    private static void kinds(String table) {
        Matcher row = Pattern.compile("`(\\w)` \\| (\\d) ").matcher(table);
        int kinds = 0;
        while (row.find()) {
            LuckJars x = Due.placed(row.group(1) + "0000h0000");
            Due.tells("README: kind of " + row.group(1), x, x.house(0, 0), Long.parseLong(row.group(2)));
            kinds++;
        }
        Due.is("README's kinds", kinds, 6);
    }
}
