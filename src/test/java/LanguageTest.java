import java.lang.reflect.Field;
import java.lang.reflect.Method;
import java.lang.reflect.Modifier;
import java.nio.file.Files;
import java.nio.file.Path;
import java.util.Set;
import java.util.TreeSet;
import java.util.regex.Matcher;
import java.util.regex.Pattern;

/** The rules of LANGUAGE.md that can be seen in the program's text or in its compiled classes. */
public final class LanguageTest {
    private static final Check CHECK = new Check("LanguageTest");
    private static final Path PROGRAM = Path.of("src/main/java/LastLamps.java");

    private static final String[] WORDS = {"throw", "throws", "try", "catch", "finally", "synchronized", "assert",
        "package", "native", "volatile", "transient", "protected", "var", "double", "float", "hashCode", "toString",
        "Random", "Thread", "Object"};
    private static final Set<String> LIBRARY = Set.of("System.arraycopy", "Arrays.fill", "Arrays.copyOf",
        "Arrays.copyOfRange", "Math.min", "Math.max", "Math.abs", "Integer.bitCount");
    private static final Set<String> LIBRARY_TYPES = Set.of("String", "System", "Arrays", "Math", "Integer");
    private static final Set<Class<?>> CONSTANTS = Set.of(int.class, long.class, boolean.class, char.class, String.class,
        int[].class, long[].class, char[].class, byte[].class);

    public static void main(String[] args) throws Exception {
        String text = Files.readString(PROGRAM);
        // Without what is only said: comments, texts, signs.
        String code = text.replaceAll("(?s)/\\*.*?\\*/", "").replaceAll("//[^\n]*", "")
            .replaceAll("\"[^\"\n]*\"", "\"\"").replaceAll("'[^'\n]'", "' '");
        signs(text);
        words(code);
        types(code);
        library(code);
        arraysOfNumbers(code);
        truths(code);
        loops(code);
        classes();
        lengths(text);
        callDepth(code);
        CHECK.end();
    }

    private static boolean has(String code, String pattern) {
        return Pattern.compile(pattern).matcher(code).find();
    }

    private static Set<String> all(String code, String pattern) {
        Set<String> found = new TreeSet<>();
        Matcher m = Pattern.compile(pattern).matcher(code);
        while (m.find()) found.add(m.group(1));
        return found;
    }

    private static void signs(String text) {
        for (int i = 0; i < text.length(); i++) {
            char c = text.charAt(i);
            if (c != '\n' && (c < 32 || c > 126)) CHECK.due("sign at " + i, c, 32);
        }
    }

    /** Rules 2, 6 and 13. */
    private static void words(String code) {
        for (String word : WORDS) CHECK.holds("no " + word, !has(code, "\\b" + word + "\\b"));
        CHECK.holds("no lambda, no reference to a method", !code.contains("->") && !code.contains("::"));
        CHECK.holds("no block of a class for itself", !has(code, "(?m)^\\s*(static )?\\{"));
        CHECK.holds("no joining of texts", !has(code, "\"\" *\\+|\\+ *\"\""));
    }

    /** Rule 3: names that begin with a great letter are own classes, or the library's that are listed. */
    private static void types(String code) {
        Set<String> own = all(code, "\\bclass (\\w+)");
        for (String name : all(code, "\\b([A-Z][a-z]\\w*)\\b")) {
            CHECK.holds("the type " + name, own.contains(name) || LIBRARY_TYPES.contains(name));
        }
        CHECK.holds("no arrays of arrays of objects", !has(code, "\\b[A-Z][a-z]\\w*\\[\\]\\["));
        for (String name : all(code, "import ([\\w.*]+);")) CHECK.holds("import " + name, name.equals("java.util.Arrays"));
    }

    /** Rule 4. */
    private static void library(String code) {
        for (String call : all(code, "\\b([A-Z][a-z]\\w*\\.[a-z]\\w*)\\(")) CHECK.holds("the call " + call, LIBRARY.contains(call));
    }

    /** Rule 4: the library copies and fills arrays of numbers alone. */
    private static void arraysOfNumbers(String code) {
        Set<String> others = all(code, "\\b(?:boolean|[A-Z][a-z]\\w*)\\[\\] (\\w+)");
        CHECK.holds("there are arrays of no numbers", others.contains("knows") && others.contains("fallen"));
        for (String given : all(code, "\\b(?:System\\.arraycopy|Arrays\\.\\w+)\\(([^;]*)\\);")) {
            for (String name : others) CHECK.holds(name + " given in " + given, !has(given, "\\b" + name + "\\b"));
        }
    }

    /** Rule 10 lists && and || for what is true or not, and masks for numbers alone. */
    private static void truths(String code) {
        for (String name : all(code, "\\bboolean (\\w+)\\b(?!\\()")) {
            CHECK.holds("no mask on " + name, !has(code, "\\b" + name + " *[|&^]=") && !has(code, "\\b" + name + " [|&^] "));
        }
    }

    /** Rule 9: no loop whose own line says no end. */
    private static void loops(String code) {
        CHECK.holds("no loop without an end", !has(code, "while *\\( *true|for *\\([^;]*; *;|\\bdo\\b"));
        for (String line : all(code, "(while *\\(.*)")) CHECK.holds(line + " has a bound", line.contains(" < "));
    }

    /** Rules 1, 2, 5 and 11, by the compiled classes. */
    private static void classes() {
        Class<?>[] nested = LastLamps.class.getDeclaredClasses();
        CHECK.holds("some twelve classes", nested.length < 12);
        members(LastLamps.class);
        for (Class<?> c : nested) {
            CHECK.holds(c + " is static", Modifier.isStatic(c.getModifiers()) && !Modifier.isPublic(c.getModifiers()));
            CHECK.holds(c + " has no classes", c.getDeclaredClasses().length == 0);
            members(c);
        }
    }

    private static void members(Class<?> c) {
        int fields = 0;
        for (Field f : c.getDeclaredFields()) {
            if (Modifier.isStatic(f.getModifiers())) {
                CHECK.holds(f + " is a constant", Modifier.isFinal(f.getModifiers()) && CONSTANTS.contains(f.getType()));
            } else {
                fields++;
            }
        }
        CHECK.holds(c + " has some twenty fields", fields <= 20);
        for (Method m : c.getDeclaredMethods()) CHECK.holds(m + " takes seven at most", m.getParameterCount() <= 7);
    }

    /** Rule 11: calls that are no recursion. */
    private static void callDepth(String code) {
        CallDepth calls = new CallDepth(code);
        int methods = LastLamps.class.getDeclaredMethods().length + 1;
        for (Class<?> c : LastLamps.class.getDeclaredClasses()) methods += c.getDeclaredMethods().length;
        CHECK.holds("all methods are found in the text", calls.methods() >= methods);
        CHECK.holds("calls go " + calls.deepest() + " deep", calls.deepest() > 4 && calls.deepest() <= 8);
    }

    /** Rule 11. */
    private static void lengths(String text) {
        int start = 0, line = 0;
        String end = "";
        for (String row : text.split("\n")) {
            line++;
            if (row.matches(" {4,8}(public|private|static)[^;=]*\\) \\{")) {
                start = line;
                end = row.replaceAll("\\S.*", "}");
            }
            if (start > 0 && row.equals(end)) {
                CHECK.holds("the method at line " + start + " is short", line - start < 60);
                start = 0;
            }
        }
    }
}
