import java.io.IOException;
import java.lang.reflect.Constructor;
import java.lang.reflect.Field;
import java.lang.reflect.Method;
import java.lang.reflect.Modifier;
import java.nio.file.Files;
import java.nio.file.Path;
import java.util.Arrays;
import java.util.Map;
import java.util.Set;
import java.util.TreeMap;
import java.util.TreeSet;
import java.util.regex.Matcher;
import java.util.regex.Pattern;

/** What of LANGUAGE.md can be seen in the text of the class and in its face; no more than its rules ask for. */
public final class LanguageTest {
    private static final Path SOURCE = Path.of("src/main/java/FerryTerminal.java");
    private static final int SOME_SIXTY_LINES = 66;
    private static final int SOME_TWELVE_CLASSES = 13;
    private static final int SOME_TWENTY_FIELDS = 22;
    private static final int MOST_DEEP = 8;
    private static final Set<String> FACE = new TreeSet<>(Arrays.asList(
            "int ship(int,int,int,boolean)", "int cabin(int,int)", "int sailing(int,int,int)",
            "int book(int,int,int,int)", "boolean arrive(int,int)", "boolean open(int)",
            "boolean recall(int,int)", "int settle(int)", "int depart(int)", "boolean off(int)",
            "int shipOf(int,int)", "int sailingOf(int,int)", "int ticketOf(int,int)",
            "int at(int,int,int,int)", "int lane(int,int,int,int)", "int log(int,int)", "int count(int)",
            "int total(int,int)", "long kept()", "int audit(int,int,int)"));

    private static int wrong = 0;

    private static void must(boolean holds, String what) {
        if (!holds) {
            wrong++;
            System.out.println("LanguageTest: " + what);
        }
    }

    public static void main(String[] args) throws IOException {
        String text = Files.readString(SOURCE);
        String code = text.replaceAll("(?s)/\\*.*?\\*/", " ").replaceAll("//[^\n]*", " ");
        must(code.chars().allMatch(c -> c < 128), "a sign above 127 (rule 4)");
        words(code);
        methodsStayShort(text);
        callsStayShallow(code);
        face();
        int classes = 1;
        fields(FerryTerminal.class);
        for (Class<?> inside : FerryTerminal.class.getDeclaredClasses()) {
            classes++;
            must(Modifier.isStatic(inside.getModifiers()) && !Modifier.isPublic(inside.getModifiers())
                    && !Modifier.isProtected(inside.getModifiers()), inside + " (rules 1 and 2)");
            fields(inside);
            methods(inside);
        }
        must(classes <= SOME_TWELVE_CLASSES, classes + " classes (rule 11)");
        System.out.println(wrong == 0 ? "LanguageTest: all holds" : "LanguageTest: " + wrong + " wrong");
        if (wrong != 0) {
            System.exit(1);
        }
    }

    private static void words(String code) {
        for (String word : new String[] {"throw", "throws", "try", "catch", "synchronized", "assert"}) {
            must(!Pattern.compile("\\b" + word + "\\b").matcher(code).find(), "the word " + word + " (rule 6)");
        }
        for (String word : new String[] {"package", "Thread", "Random", "File", "System\\.(?!arraycopy)\\w+",
            "\\w+Exact", "import(?! java\\.util\\.(ArrayList|List|Iterator|Arrays);)"}) {
            must(!Pattern.compile("\\b" + word + "\\b").matcher(code).find(),
                    "the words " + word + " (rules 4 and 13)");
        }
        String withoutArrows = code.replaceAll("\\b(case[^;{}]*?|default\\s*)->", " ");
        must(!withoutArrows.contains("->") && !code.contains("::"), "a lambda or a method reference (rule 2)");
        must(!Pattern.compile("static\\s*\\{").matcher(code).find(), "a static initialiser (rule 5)");
        must(!Pattern.compile("\\b(int|boolean) (hashCode|equals)\\s*\\(|String toString\\s*\\(\\s*\\)\\s*\\{")
                .matcher(code).find(), "an equals, hashCode or toString of its own (rule 6)");
        must(!Pattern.compile("\\bwhile\\s*\\(\\s*true|\\bfor\\s*\\([^;)]*;\\s*;").matcher(code).find(),
                "a loop without an end (rule 9)");
    }

    private static void methodsStayShort(String text) {
        String[] lines = text.split("\n");
        int from = -1;
        for (int i = 0; i < lines.length; i++) {
            if (lines[i].matches("( {4}| {8})(public|private)[^;=]*\\(.*")) {
                from = i;
            }
            if (from >= 0 && lines[i].matches("( {4}| {8})\\}")) {
                must(i - from < SOME_SIXTY_LINES,
                        "a method of " + (i - from + 1) + " lines at " + (from + 1) + " (rule 11)");
                from = -1;
            }
        }
    }

    /** Reads which methods each method calls; those of one name count as one, and recursion doesn't count. */
    private static void callsStayShallow(String code) {
        Map<String, StringBuilder> bodies = new TreeMap<>();
        Pattern head = Pattern.compile("(?: {4}| {8})(?:public|private)[^;=(]*?(\\w+)\\(.*");
        String name = null;
        for (String line : code.split("\n")) {
            Matcher starts = head.matcher(line);
            if (starts.matches()) {
                name = starts.group(1);
                bodies.computeIfAbsent(name, n -> new StringBuilder());
            } else if (name != null) {
                bodies.get(name).append(line).append('\n');
            }
        }
        must(bodies.containsKey("settle") && bodies.containsKey("hasLane"), "no methods are read");
        for (String one : bodies.keySet()) {
            int depth = depth(one, bodies, new TreeSet<>());
            must(depth <= MOST_DEEP, one + "() leads to calls " + depth + " deep (rule 11)");
        }
    }

    private static int depth(String name, Map<String, StringBuilder> bodies, Set<String> open) {
        int deepest = 0;
        open.add(name);
        Matcher call = Pattern.compile("\\b(\\w+)\\(").matcher(bodies.get(name));
        while (call.find()) {
            if (bodies.containsKey(call.group(1)) && !open.contains(call.group(1))) {
                deepest = Math.max(deepest, depth(call.group(1), bodies, open));
            }
        }
        open.remove(name);
        return deepest + 1;
    }

    private static void face() {
        must(Modifier.isPublic(FerryTerminal.class.getModifiers())
                && Modifier.isFinal(FerryTerminal.class.getModifiers()), "not public and final (rule 1)");
        Set<String> shown = new TreeSet<>();
        for (Method method : FerryTerminal.class.getDeclaredMethods()) {
            if (!Modifier.isPrivate(method.getModifiers()) && !method.isSynthetic()) {
                shown.add(told(method));
                must(Modifier.isPublic(method.getModifiers()), method + " is neither public nor private (rule 1)");
            }
        }
        must(shown.equals(FACE), "the face is " + shown);
        for (Field field : FerryTerminal.class.getDeclaredFields()) {
            boolean constant = field.getName().equals("NONE") && Modifier.isPublic(field.getModifiers());
            must(Modifier.isPrivate(field.getModifiers()) || field.isSynthetic() || constant, field + " (rule 1)");
        }
        methods(FerryTerminal.class);
        Constructor<?>[] constructors = FerryTerminal.class.getDeclaredConstructors();
        must(constructors.length == 1 && constructors[0].getParameterCount() == 0
                && Modifier.isPublic(constructors[0].getModifiers()), "the constructor (rule 1)");
    }

    private static String told(Method method) {
        String[] types = new String[method.getParameterCount()];
        for (int i = 0; i < types.length; i++) {
            types[i] = method.getParameterTypes()[i].getSimpleName();
        }
        return method.getReturnType().getSimpleName() + " " + method.getName() + "(" + String.join(",", types) + ")";
    }

    private static void methods(Class<?> one) {
        for (Method method : one.getDeclaredMethods()) {
            must(method.getParameterCount() <= 7, method + " takes too many (rule 11)");
            for (String call : FACE) {
                boolean same = call.contains(" " + method.getName() + "(");
                must(!same || !Modifier.isPrivate(method.getModifiers()), method + " bears a public name (rule 1)");
            }
        }
    }

    private static void fields(Class<?> one) {
        int own = 0;
        for (Field field : one.getDeclaredFields()) {
            boolean isStatic = Modifier.isStatic(field.getModifiers());
            own += isStatic ? 0 : 1;
            must(!isStatic || Modifier.isFinal(field.getModifiers()), field + " (rule 5)");
        }
        must(own <= SOME_TWENTY_FIELDS, one + " has " + own + " fields (rule 11)");
    }
}
