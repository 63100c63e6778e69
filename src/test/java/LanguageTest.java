import java.io.IOException;
import java.lang.reflect.Constructor;
import java.lang.reflect.Field;
import java.lang.reflect.Method;
import java.lang.reflect.Modifier;
import java.nio.file.Files;
import java.nio.file.Path;
import java.util.Arrays;
import java.util.Set;
import java.util.TreeSet;
import java.util.regex.Matcher;
import java.util.regex.Pattern;

/** What of LANGUAGE.md can be seen in the text of the class and in its face. */
public final class LanguageTest {
    private static final Path SOURCE = Path.of("src/main/java/FerryTerminal.java");
    private static final Set<String> FACE = new TreeSet<>(Arrays.asList(
            "int ship(int,int,int,boolean)", "int cabin(int,int)", "int sailing(int,int,int)",
            "int book(int,int,int,int)", "boolean arrive(int,int)", "boolean open(int)",
            "boolean recall(int,int)", "int settle(int)", "int depart(int)", "boolean off(int)",
            "int shipOf(int,int)", "int sailingOf(int,int)", "int ticketOf(int,int)",
            "int at(int,int,int,int)", "int lane(int,int,int,int)", "int log(int,int)", "int count(int)",
            "int total(int,int)", "long kept()", "int audit(int,int,int)"));

    private static int wrong = 0;

    private static void must(boolean holds, String what) {
        if (!holds) {
            wrong++;
            System.out.println("LanguageTest: " + what);
        }
    }

    public static void main(String[] args) throws IOException {
        String text = Files.readString(SOURCE);
        String code = text.replaceAll("(?s)/\\*.*?\\*/", " ").replaceAll("//[^\n]*", " ");
        must(text.chars().allMatch(c -> c < 128), "a sign above 127");
        words(code);
        methodsStayShort(text);
        face();
        int classes = 1;
        fields(FerryTerminal.class);
        for (Class<?> inside : FerryTerminal.class.getDeclaredClasses()) {
            classes++;
            must(Modifier.isStatic(inside.getModifiers()) && !Modifier.isPublic(inside.getModifiers()),
                    inside + " is not static or is public (rule 1)");
            fields(inside);
            noFaceNames(inside);
        }
        must(classes <= 12, classes + " classes (rule 11)");
        System.out.println(wrong == 0 ? "LanguageTest: all holds" : "LanguageTest: " + wrong + " wrong");
        if (wrong != 0) {
            System.exit(1);
        }
    }

    private static void words(String code) {
        for (String word : new String[] {"throw", "throws", "try", "catch", "finally", "synchronized", "assert",
            "import", "package", "System", "Thread", "Object", "hashCode", "toString", "equals", "String",
            "\\w+Exact", "native", "volatile", "protected", "var"}) {
            must(!Pattern.compile("\\b" + word + "\\b").matcher(code).find(), "the word " + word);
        }
        for (String sign : new String[] {"->", "::", "@", "\"", "?>", "[][]"}) {
            must(!code.contains(sign), "the sign " + sign);
        }
        must(!Pattern.compile("static\\s*\\{").matcher(code).find(), "a static initialiser (rule 5)");
        must(!Pattern.compile("\\b(while|for)\\s*\\(\\s*(true|;\\s*;)").matcher(code).find(),
                "a loop without an end (rule 9)");
        Matcher division = Pattern.compile("[/%]\\s*([^\\s;)]+)").matcher(code);
        while (division.find()) {
            must(division.group(1).matches("[1-9][0-9]*"), "a division by " + division.group(1) + " (rule 7)");
        }
    }

    private static void methodsStayShort(String text) {
        String[] lines = text.split("\n");
        int from = -1;
        for (int i = 0; i < lines.length; i++) {
            if (lines[i].matches("( {4}| {8})(public|private)[^;=]*\\(.*")) {
                from = i;
            }
            if (from >= 0 && lines[i].matches("( {4}| {8})\\}")) {
                must(i - from < 60, "a method of " + (i - from + 1) + " lines at " + (from + 1) + " (rule 11)");
                from = -1;
            }
            must(lines[i].length() <= 110, "a long line, " + (i + 1));
        }
    }

    private static void face() {
        must(Modifier.isPublic(FerryTerminal.class.getModifiers())
                && Modifier.isFinal(FerryTerminal.class.getModifiers()), "not public and final (rule 1)");
        Set<String> shown = new TreeSet<>();
        Set<String> names = new TreeSet<>();
        for (Method method : FerryTerminal.class.getDeclaredMethods()) {
            if (Modifier.isPrivate(method.getModifiers())) {
                continue;
            }
            shown.add(told(method));
            names.add(method.getName());
            must(Modifier.isPublic(method.getModifiers()), method + " is neither public nor private (rule 1)");
        }
        must(shown.equals(FACE), "the face is " + shown);
        noFaceNames(FerryTerminal.class);
        Constructor<?>[] constructors = FerryTerminal.class.getDeclaredConstructors();
        must(constructors.length == 1 && constructors[0].getParameterCount() == 0
                && Modifier.isPublic(constructors[0].getModifiers()), "the constructor (rule 1)");
    }

    private static String told(Method method) {
        String[] types = new String[method.getParameterCount()];
        for (int i = 0; i < types.length; i++) {
            types[i] = method.getParameterTypes()[i].getSimpleName();
        }
        return method.getReturnType().getSimpleName() + " " + method.getName() + "(" + String.join(",", types) + ")";
    }

    private static void noFaceNames(Class<?> one) {
        for (Method method : one.getDeclaredMethods()) {
            must(method.getParameterCount() <= 7, method + " takes too many (rule 11)");
            must(!method.isSynthetic(), method + " was made by the compiler");
            for (String call : FACE) {
                boolean same = call.contains(" " + method.getName() + "(");
                must(!same || Modifier.isPublic(method.getModifiers()), method + " bears a public name (rule 1)");
            }
        }
    }

    private static void fields(Class<?> one) {
        int own = 0;
        for (Field field : one.getDeclaredFields()) {
            int modifiers = field.getModifiers();
            if (!Modifier.isStatic(modifiers)) {
                own++;
            }
            must(!Modifier.isStatic(modifiers) || Modifier.isFinal(modifiers), field + " (rule 5)");
            must(Modifier.isPrivate(modifiers) || field.getName().equals("NONE"), field + " (rule 1)");
        }
        must(own <= 20, one + " has " + own + " fields (rule 11)");
    }
}
