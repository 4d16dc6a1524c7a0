import java.lang.reflect.Method;
import java.lang.reflect.Modifier;
import java.nio.file.Files;
import java.nio.file.Path;
import java.util.Map;
import java.util.Set;
import java.util.TreeSet;
import java.util.regex.Matcher;
import java.util.regex.Pattern;

/** README.md does not lie: its examples are called in their order, each answer held against the one told there. */
public final class ReadmeTests {
    private static final Pattern TEXT = Pattern.compile("String text = \"([^\"]*)\";");
    private static final Pattern CALL = Pattern.compile("hours\\.(\\w+)\\(([^()]*)\\);\\s*// (-?\\d+|[A-Z]+)\\b.*");
    private static final Map<String, Long> NAMED = Map.of("UNKNOWN", -1L, "OUTSIDE", -2L, "STATE", -3L, "FULL", -4L, "NONE", -9L);

    private final TallowHours hours = new TallowHours();
    private final Set<String> called = new TreeSet<>();
    private int wrong = 0;

    public static void main(String[] args) throws Exception {
        ReadmeTests tests = new ReadmeTests();
        tests.read(Files.readString(Path.of("README.md")));
        System.out.println(tests.wrong == 0 ? "readme: all answers are as told" : "readme: " + tests.wrong + " things are not as told");
        if (tests.wrong != 0) System.exit(1);
    }

    private void fault(String what) {
        wrong++;
        System.out.println("README.md: " + what);
    }

    private void read(String page) throws Exception {
        boolean code = false;
        for (String line : page.split("\n")) {
            if (line.startsWith("```")) code = line.equals("```java");
            else if (code) example(line.trim());
        }
        for (Method m : TallowHours.class.getDeclaredMethods()) {
            if (!Modifier.isPublic(m.getModifiers())) continue;
            if (!called.contains(m.getName())) fault("no example calls " + m.getName());
            if (!page.contains("| `" + m.getName() + "(")) fault("no table tells of " + m.getName());
        }
        for (String name : NAMED.keySet()) if (!page.contains("`" + name + "`")) fault("nothing tells of " + name);
    }

    private void example(String line) throws Exception {
        Matcher text = TEXT.matcher(line);
        Matcher call = CALL.matcher(line);
        if (text.matches()) {
            for (char letter : text.group(1).toCharArray()) hours.write(letter);
            called.add("write");
        } else if (call.matches()) {
            String told = call.group(3);
            long due = NAMED.containsKey(told) ? NAMED.get(told) : Long.parseLong(told);
            long got = answer(call.group(1), call.group(2));
            called.add(call.group(1));
            if (got != due) fault(line + " answered " + got);
        } else if (line.startsWith("hours.") && !line.equals("hours.write(text.charAt(i));")) {
            fault("no answer is told: " + line);
        }
    }

    private long answer(String name, String given) throws Exception {
        String[] parts = given.isEmpty() ? new String[0] : given.split(", ");
        for (Method m : TallowHours.class.getMethods()) {
            if (!m.getName().equals(name) || m.getParameterCount() != parts.length) continue;
            Object[] values = new Object[parts.length];
            for (int i = 0; i < parts.length; i++) values[i] = value(m.getParameterTypes()[i], parts[i]);
            return ((Number) m.invoke(hours, values)).longValue();
        }
        fault("there is no call " + name + "(" + given + ")");
        return Long.MIN_VALUE;
    }

    private static Object value(Class<?> type, String told) {
        if (type == boolean.class) return told.equals("true");
        if (type == long.class) return Long.parseLong(told);
        return told.startsWith("'") ? told.charAt(1) : Integer.parseInt(told);
    }
}
