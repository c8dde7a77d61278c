import java.lang.reflect.Constructor;
import java.lang.reflect.Field;
import java.lang.reflect.Method;
import java.lang.reflect.Modifier;
import java.nio.file.Files;
import java.nio.file.Path;
import java.util.Arrays;
import java.util.Set;
import java.util.TreeSet;
import java.util.regex.Matcher;
import java.util.regex.Pattern;

/** The face of the document, and those rules of LANGUAGE.md that can be seen from outside. */
public final class FaceTest {
    private static final Check CHECK = new Check("FaceTest");

    private static final String[] METHODS = {
        "feed int long", "pit", "fault", "way int int", "fall int boolean", "count int",
        "man int boolean boolean", "lamp int int", "told int int", "light int int",
        "moves int int boolean", "soonest int int int int boolean", "last int int boolean",
        "open int int boolean", "most int", "cut int", "up int int", "lent int int",
        "mark int int int", "tells int int int int", "toldBest int int int int",
        "byTwo int int int int int int", "tooLate int int int", "go int", "clear",
        "judge int int int int", "opens int int", "safe int int", "safest int int int",
        "knock int int", "keep int", "goBack int"};

    public static void main(String[] args) throws Exception {
        face();
        nested();
        source();
        CHECK.end();
    }

    private static void face() throws Exception {
        Class<?> type = LastLamps.class;
        CHECK.holds("public final", Modifier.isPublic(type.getModifiers()) && Modifier.isFinal(type.getModifiers()));
        Set<String> found = new TreeSet<>();
        for (Method m : type.getDeclaredMethods()) {
            if (Modifier.isPrivate(m.getModifiers())) continue;
            CHECK.holds(m + " is public, of the object, int", m.getModifiers() == Modifier.PUBLIC && m.getReturnType() == int.class);
            StringBuilder name = new StringBuilder(m.getName());
            for (Class<?> p : m.getParameterTypes()) name.append(' ').append(p.getName());
            found.add(name.toString());
        }
        Set<String> due = new TreeSet<>(Arrays.asList(METHODS));
        CHECK.holds("methods " + found, found.equals(due));
        Constructor<?>[] made = type.getDeclaredConstructors();
        CHECK.holds("one constructor", made.length == 1 && made[0].getParameterCount() == 0 && Modifier.isPublic(made[0].getModifiers()));
        String[] names = {"NONE", "UNKNOWN", "OUTSIDE", "NOT", "FULL"};
        int[] values = {-1, -1001, -1002, -1003, -1004};
        for (int i = 0; i < names.length; i++) CHECK.due(names[i], type.getField(names[i]).getInt(null), values[i]);
        for (Field f : type.getDeclaredFields()) {
            CHECK.holds(f + " is private, or a constant of the face", Modifier.isPrivate(f.getModifiers()) || Arrays.asList(names).contains(f.getName()));
        }
    }

    private static void nested() {
        Set<String> names = new TreeSet<>();
        for (String m : METHODS) names.add(m.split(" ")[0]);
        CHECK.holds("some twelve classes", LastLamps.class.getDeclaredClasses().length < 12);
        for (Class<?> c : LastLamps.class.getDeclaredClasses()) {
            CHECK.holds(c + " is static", Modifier.isStatic(c.getModifiers()) && !Modifier.isPublic(c.getModifiers()));
            for (Method m : c.getDeclaredMethods()) CHECK.holds(m + " has a name of its own", !names.contains(m.getName()));
            fields(c);
        }
        for (Method m : LastLamps.class.getDeclaredMethods()) {
            CHECK.holds(m + " has a name of its own", Modifier.isPublic(m.getModifiers()) || !names.contains(m.getName()));
        }
        fields(LastLamps.class);
    }

    private static void fields(Class<?> c) {
        int fields = 0;
        for (Field f : c.getDeclaredFields()) {
            if (Modifier.isStatic(f.getModifiers())) CHECK.holds(f + " is final", Modifier.isFinal(f.getModifiers()));
            else fields++;
        }
        CHECK.holds(c + " has some twenty fields", fields <= 20);
        for (Method m : c.getDeclaredMethods()) CHECK.holds(m + " takes seven at most", m.getParameterCount() <= 7);
    }

    private static void source() throws Exception {
        String text = Files.readString(Path.of("src/main/java/LastLamps.java"));
        for (int i = 0; i < text.length(); i++) {
            char c = text.charAt(i);
            if (c != '\n' && (c < 32 || c > 126)) CHECK.due("sign at " + i, c, 32);
        }
        String code = text.replaceAll("(?s)/\\*.*?\\*/", "").replaceAll("//[^\n]*", "");
        String[] words = {"throw", "throws", "try", "catch", "finally", "synchronized", "assert", "package", "native",
            "volatile", "hashCode", "toString", "System.currentTimeMillis", "System.nanoTime", "Random", "Thread", "Exact"};
        for (String word : words) {
            CHECK.holds("no " + word, !Pattern.compile("\\b" + Pattern.quote(word) + "\\b").matcher(code).find());
        }
        CHECK.holds("no lambda, no reference to a method", !code.contains("->") && !code.contains("::"));
        Matcher imports = Pattern.compile("import ([\\w.*]+);").matcher(code);
        while (imports.find()) CHECK.holds("import " + imports.group(1), Set.of("java.util.Arrays", "java.util.ArrayList", "java.util.List").contains(imports.group(1)));
        int start = 0, line = 0;
        for (String row : text.split("\n")) {
            line++;
            if (row.matches(" {4,8}(public|private|static)[^;=]*\\{")) start = line;
            if (row.matches(" {4,8}\\}") && start > 0) {
                CHECK.holds("the method at line " + start + " is short", line - start < 60);
                start = 0;
            }
        }
    }
}
