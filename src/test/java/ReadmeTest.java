import java.io.IOException;
import java.lang.reflect.Method;
import java.lang.reflect.Modifier;
import java.nio.file.Files;
import java.nio.file.Path;
import java.util.regex.Matcher;
import java.util.regex.Pattern;

/** README.md: its example is run line by line, and no call of the face is left out. */
public final class ReadmeTest {
    private static final String BEGIN = "```java\n";
    private static final String MADE = "RingCircuits lab = new RingCircuits();";
    // A call, and behind it, for one that answers, what it answers and a colon.
    private static final Pattern CALL = Pattern.compile("lab\\.(\\w+)\\((.*)\\);(?: +// (\\S+): .+)?");

    public static void main(String[] args) throws IOException, ReflectiveOperationException {
        String readme = Files.readString(Path.of("README.md"));
        int begin = readme.indexOf(BEGIN) + BEGIN.length();
        int end = readme.indexOf("```", begin);
        Check.due("README.md has an example", begin >= BEGIN.length() && end > begin, true);
        run(readme.substring(begin, Math.max(begin, end)));
        namesAllCalls(readme);
        Check.end();
    }

    private static void run(String example) throws ReflectiveOperationException {
        RingCircuits lab = new RingCircuits();
        Check.due("the example makes one object", example.startsWith(MADE), true);
        for (String line : example.substring(MADE.length()).split("\n")) {
            if (!line.isEmpty()) {
                runLine(lab, line);
            }
        }
    }

    private static void runLine(RingCircuits lab, String line) throws ReflectiveOperationException {
        Matcher call = CALL.matcher(line);
        Check.due("a line of the example is a call: " + line, call.matches(), true);
        if (!call.matches()) {
            return;
        }
        Method method = method(call.group(1));
        Object answer = method.invoke(lab, arguments(method, call.group(2)));
        String told = call.group(3);
        if (method.getReturnType() == void.class) {
            told = "null";
        }
        Check.due(line, "" + answer, "" + told);
    }

    private static Method method(String name) throws NoSuchMethodException {
        for (Method method : RingCircuits.class.getDeclaredMethods()) {
            if (method.getName().equals(name)) {
                return method;
            }
        }
        throw new NoSuchMethodException(name);
    }

    private static Object[] arguments(Method method, String list) {
        String[] written = list.isEmpty() ? new String[0] : list.split(", ");
        Class<?>[] types = method.getParameterTypes();
        Object[] arguments = new Object[written.length];
        for (int i = 0; i < written.length; i++) {
            long value = Long.decode(written[i].replace("L", ""));
            if (i < types.length && types[i] == int.class) {
                arguments[i] = (int) value;
            } else {
                arguments[i] = value;
            }
        }
        return arguments;
    }

    private static void namesAllCalls(String readme) {
        for (Method method : RingCircuits.class.getDeclaredMethods()) {
            if (Modifier.isPublic(method.getModifiers())) {
                String call = "`" + method.getName() + "(";
                Check.due("README.md names " + call, readme.contains(call), true);
            }
        }
    }
}
