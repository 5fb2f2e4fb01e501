import java.io.IOException;
import java.lang.reflect.Method;
import java.lang.reflect.Modifier;
import java.nio.charset.StandardCharsets;
import java.nio.file.Files;
import java.nio.file.Path;
import java.util.Map;
import java.util.regex.Matcher;
import java.util.regex.Pattern;

/** README.md tells the truth: its calls answer what it says, and it names every call and every refusal. */
public final class ReadmeTest {
    private static final Check CHECK = new Check("ReadmeTest");
    private static final Pattern CALL = Pattern.compile("x\\.(\\w+)\\((.*)\\); +// (-?\\d+|UNKNOWN|BAD|STATE|FULL|NONE)\\b.*");
    private static final Map<String, Integer> CONSTANTS = Map.of("UNKNOWN", GroundWaters.UNKNOWN, "BAD", GroundWaters.BAD,
        "STATE", GroundWaters.STATE, "FULL", GroundWaters.FULL, "NONE", GroundWaters.NONE);

    public static void main(String[] args) throws IOException, ReflectiveOperationException {
        String text = Files.readString(Path.of("README.md"), StandardCharsets.UTF_8);
        callsAnswerAsTold(text);
        nothingIsMissing(text);
        CHECK.end();
    }

    private static void callsAnswerAsTold(String text) throws ReflectiveOperationException {
        int begin = text.indexOf("```java\n"), end = text.indexOf("\n```\n", begin);
        GroundWaters x = new GroundWaters();
        int calls = 0;
        for (String line : text.substring(begin, end).split("\n")) {
            if (!line.startsWith("x.")) continue;
            Matcher m = CALL.matcher(line);
            CHECK.due("README", line + " is a call with its answer", m.matches() ? 1 : 0, 1);
            if (!m.matches()) continue;
            calls++;
            Integer named = CONSTANTS.get(m.group(3));
            CHECK.due("README", line, call(x, m.group(1), m.group(2)), named != null ? named : Long.parseLong(m.group(3)));
        }
        CHECK.due("README", "calls were found", calls >= 30 ? 1 : 0, 1);
    }

    private static long call(GroundWaters x, String name, String given) throws ReflectiveOperationException {
        String[] parts = given.isEmpty() ? new String[0] : given.split(", ");
        Object[] values = new Object[parts.length];
        for (int i = 0; i < parts.length; i++) values[i] = valueOf(parts[i]);
        return ((Number) methodNamed(name).invoke(x, values)).longValue();
    }

    private static Object valueOf(String part) {
        if (part.equals("true") || part.equals("false")) return part.equals("true");
        return part.startsWith("'") ? (int) part.charAt(1) : Integer.parseInt(part);
    }

    private static Method methodNamed(String name) {
        for (Method m : GroundWaters.class.getDeclaredMethods()) if (m.getName().equals(name)) return m;
        throw new IllegalArgumentException("README.md has a call that is not there: " + name);
    }

    private static void nothingIsMissing(String text) {
        for (Method m : GroundWaters.class.getDeclaredMethods()) {
            if (!Modifier.isPublic(m.getModifiers())) continue;
            Matcher row = Pattern.compile("`" + m.getName() + "\\(([^)]*)\\)`").matcher(text);
            boolean found = row.find();
            CHECK.due("README", m.getName() + " is told", found ? 1 : 0, 1);
            if (!found) continue;
            int parameters = row.group(1).isEmpty() ? 0 : row.group(1).split(", ").length;
            CHECK.due("README", m.getName() + ": parameters that are told", parameters, m.getParameterCount());
        }
        for (Map.Entry<String, Integer> c : CONSTANTS.entrySet()) {
            boolean told = Pattern.compile("`" + c.getKey() + "` *\\| " + c.getValue() + " ").matcher(text).find();
            CHECK.due("README", c.getKey() + " is told with its number", told ? 1 : 0, 1);
        }
        CHECK.due("README", "how the tests are run", text.contains("bash .ci/run") ? 1 : 0, 1);
    }
}
