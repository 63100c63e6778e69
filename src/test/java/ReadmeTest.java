import java.io.IOException;
import java.lang.reflect.Method;
import java.lang.reflect.Modifier;
import java.nio.file.Files;
import java.nio.file.Path;
import java.util.regex.Matcher;
import java.util.regex.Pattern;

/** The example of README.md answers as it says there, and its tables name each call with all that it takes. */
public final class ReadmeTest {
    private static final Path README = Path.of("README.md");
    private static final String FIRST_LINE = "FerryTerminal x = new FerryTerminal();";
    private static final Pattern CALL = Pattern.compile("x\\.(\\w+)\\((.*?)\\);\\s*// (-?[0-9]+|true|false)\\b.*");

    private static int wrong = 0;

    private static void fault(String told) {
        wrong++;
        System.out.println("ReadmeTest: " + told);
    }

    public static void main(String[] args) throws IOException, ReflectiveOperationException {
        String text = Files.readString(README);
        int calls = makeTheCalls(text);
        if (calls == 0) {
            fault("the example has no calls");
        }
        tablesNameAllCalls(text);
        System.out.println(wrong == 0 ? "ReadmeTest: " + calls + " calls as told" : "ReadmeTest: " + wrong + " wrong");
        if (wrong != 0) {
            System.exit(1);
        }
    }

    private static int makeTheCalls(String text) throws ReflectiveOperationException {
        int from = text.indexOf("```java\n" + FIRST_LINE);
        int to = text.indexOf("\n```\n", from);
        if (from < 0 || to < 0) {
            return 0;
        }
        String[] lines = text.substring(from, to).split("\n");
        FerryTerminal x = new FerryTerminal();
        for (int i = 2; i < lines.length; i++) {
            Matcher call = CALL.matcher(lines[i]);
            if (!call.matches()) {
                fault("no call with its answer: " + lines[i]);
                continue;
            }
            String got = make(x, call.group(1), call.group(2));
            if (!got.equals(call.group(3))) {
                fault(lines[i] + " but it answers " + got);
            }
        }
        return lines.length - 2;
    }

    private static String make(FerryTerminal x, String name, String with) throws ReflectiveOperationException {
        String[] words = with.isEmpty() ? new String[0] : with.split(", ");
        for (Method method : FerryTerminal.class.getMethods()) {
            if (method.getDeclaringClass() == FerryTerminal.class && method.getName().equals(name)
                    && method.getParameterCount() == words.length) {
                return String.valueOf(method.invoke(x, values(method.getParameterTypes(), words)));
            }
        }
        return "nothing: there is no such call";
    }

    private static Object[] values(Class<?>[] types, String[] words) {
        Object[] values = new Object[words.length];
        for (int i = 0; i < words.length; i++) {
            values[i] = types[i] == boolean.class ? (Object) Boolean.valueOf(words[i]) : Integer.valueOf(words[i]);
        }
        return values;
    }

    private static void tablesNameAllCalls(String text) {
        for (Method method : FerryTerminal.class.getDeclaredMethods()) {
            if (!Modifier.isPublic(method.getModifiers())) {
                continue;
            }
            Matcher told = Pattern.compile("\\|[^\n]*`" + method.getName() + "\\(([a-z, ]*)\\)`").matcher(text);
            if (!told.find()) {
                fault("no table names " + method.getName() + "()");
            } else if (count(told.group(1)) != method.getParameterCount()) {
                fault(method.getName() + "() takes " + method.getParameterCount());
            }
        }
    }

    private static int count(String names) {
        return names.isEmpty() ? 0 : names.split(", ").length;
    }
}
