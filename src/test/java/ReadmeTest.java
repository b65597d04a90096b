import java.lang.reflect.InvocationTargetException;
import java.lang.reflect.Method;
import java.lang.reflect.Modifier;
import java.nio.file.Files;
import java.nio.file.Path;
import java.util.ArrayList;
import java.util.List;
import java.util.TreeSet;
import java.util.regex.Matcher;
import java.util.regex.Pattern;

/** The examples of README.md, line by line, and that it names every method. */
public final class ReadmeTest {
    private static final Check CHECK = new Check("ReadmeTest");
    private static final Pattern CALL = Pattern.compile("x\\.(\\w+)\\((.*?)\\);\\s*(?://\\s*(.*))?");
    /** What a remark says of the answer: a number at its beginning, or an exception. */
    private static final Pattern ANSWER = Pattern.compile("(-?\\d+(?:\\.\\d+)?)(?![\\w.]).*");
    private static final String NEW = "GrammarAmbiguity x = new GrammarAmbiguity();";

    public static void main(String[] args) throws Exception {
        List<String> lines = Files.readAllLines(Path.of("README.md"));
        int calls = 0;
        boolean inJava = false;
        GrammarAmbiguity x = null;
        for (String line : lines) {
            if (line.startsWith("```")) {
                inJava = line.equals("```java");
            } else if (inJava && line.startsWith(NEW)) {
                x = new GrammarAmbiguity();
            } else if (inJava && !line.isBlank()) {
                call(x, line);
                calls++;
            }
        }
        CHECK.due("there are examples", calls > 0, true);
        everyMethod(String.join("\n", lines));
        CHECK.end();
    }

    private static void call(GrammarAmbiguity x, String line) throws Exception {
        Matcher call = CALL.matcher(line);
        boolean isCall = call.matches() && x != null;
        CHECK.due(line + " is a call", isCall, true);
        if (!isCall) {
            return;
        }
        String got = answer(x, method(call.group(1)), call.group(2));
        String remark = call.group(3) == null ? "" : call.group(3);
        Matcher answer = ANSWER.matcher(remark);
        if (remark.startsWith("throws ")) {
            CHECK.due(line, got, remark);
        } else if (!got.equals("null") && answer.matches()) {
            CHECK.due(line, got, answer.group(1));
        } else {
            CHECK.due(line + " gives nothing back", got, "null");
        }
    }

    private static Method method(String name) {
        for (Method method : GrammarAmbiguity.class.getMethods()) {
            if (method.getName().equals(name)) {
                return method;
            }
        }
        throw new IllegalStateException("no method " + name);
    }

    private static String answer(GrammarAmbiguity x, Method method, String text) throws Exception {
        List<Object> values = new ArrayList<>();
        String[] arguments = text.isEmpty() ? new String[0] : text.split(", ");
        for (int i = 0; i < arguments.length; i++) {
            values.add(value(method.getParameterTypes()[i], arguments[i]));
        }
        try {
            return String.valueOf(method.invoke(x, values.toArray()));
        } catch (InvocationTargetException e) {
            return "throws " + e.getCause().getClass().getSimpleName();
        }
    }

    private static Object value(Class<?> type, String argument) {
        if (type == boolean.class) {
            return Boolean.valueOf(argument);
        }
        if (type == long.class) {
            return Long.valueOf(argument.replace("L", ""));
        }
        return Integer.valueOf(argument);
    }

    private static void everyMethod(String readme) {
        TreeSet<String> missing = new TreeSet<>();
        for (Method method : GrammarAmbiguity.class.getDeclaredMethods()) {
            boolean isPublic = Modifier.isPublic(method.getModifiers());
            if (isPublic && !readme.contains("`" + method.getName() + "`")) {
                missing.add(method.getName());
            }
        }
        CHECK.due("methods that README.md does not name", missing.toString(), "[]");
    }
}
