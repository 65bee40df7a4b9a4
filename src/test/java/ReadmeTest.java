import java.io.IOException;
import java.lang.reflect.Method;
import java.nio.charset.StandardCharsets;
import java.nio.file.Files;
import java.nio.file.Path;
import java.util.TreeSet;
import java.util.regex.Matcher;
import java.util.regex.Pattern;

/** The example in README.md, called line by line: each answer is the one with which its comment begins. */
public final class ReadmeTest {
    private static final String FIRST = "RuleNetwork x = new RuleNetwork();";
    private static final Pattern CALL = Pattern.compile("x\\.(\\w+)\\((.*?)\\); +// ((true|false|-?\\d+): )?.*");

    private static int wrong = 0;

    private static void fail(String what) {
        wrong++;
        System.out.println(what);
    }

    private static String example() throws IOException {
        String readme = Files.readString(Path.of("README.md"), StandardCharsets.UTF_8);
        int from = readme.indexOf("```java\n" + FIRST);
        int to = readme.indexOf("\n```", from + 1);
        return from < 0 || to < 0 ? "" : readme.substring(from + "```java\n".length(), to);
    }

    private static Method method(String name) {
        for (Method m : RuleNetwork.class.getMethods()) {
            if (m.getDeclaringClass() == RuleNetwork.class && m.getName().equals(name)) {
                return m;
            }
        }
        throw new IllegalArgumentException("no method " + name);
    }

    private static Object[] arguments(Method m, String written) {
        String[] parts = written.isEmpty() ? new String[0] : written.split(", ");
        Class<?>[] types = m.getParameterTypes();
        if (parts.length != types.length) {
            throw new IllegalArgumentException(m.getName() + " does not take " + written);
        }
        Object[] arguments = new Object[parts.length];
        for (int i = 0; i < parts.length; i++) {
            arguments[i] = argument(types[i], parts[i]);
        }
        return arguments;
    }

    private static Object argument(Class<?> type, String part) {
        if (type == long.class) {
            return Long.decode(part.replaceAll("L$", ""));
        }
        if (type == int.class) {
            return Integer.valueOf(part);
        }
        if (type == boolean.class && (part.equals("true") || part.equals("false"))) {
            return Boolean.valueOf(part);
        }
        if (type == char.class && part.matches("'.'")) {
            return part.charAt(1);
        }
        throw new IllegalArgumentException("no " + type + ": " + part);
    }

    public static void main(String[] args) throws Exception {
        TreeSet<String> called = new TreeSet<>();
        RuleNetwork x = new RuleNetwork();
        for (String line : example().split("\n")) {
            if (line.isEmpty() || line.equals(FIRST)) {
                continue;
            }
            Matcher call = CALL.matcher(line);
            if (!call.matches()) {
                fail("README.md: this is no call with its answer: " + line);
                continue;
            }
            Method m = method(call.group(1));
            called.add(m.getName());
            // A call without an answer (null) must have none in its comment.
            String got = String.valueOf(m.invoke(x, arguments(m, call.group(2))));
            if (!got.equals(String.valueOf(call.group(4)))) {
                fail("README.md: " + line + " answered " + got);
            }
        }
        for (Method m : RuleNetwork.class.getMethods()) {
            if (m.getDeclaringClass() == RuleNetwork.class && !called.contains(m.getName())) {
                fail("README.md: the example does not call " + m.getName());
            }
        }
        System.out.println(wrong == 0 ? "the example answers what it says" : wrong + " things of README.md are not right");
        if (wrong != 0) {
            System.exit(1);
        }
    }
}
