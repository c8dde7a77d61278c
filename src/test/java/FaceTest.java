import java.lang.reflect.Constructor;
import java.lang.reflect.Field;
import java.lang.reflect.Method;
import java.lang.reflect.Modifier;
import java.util.Arrays;
import java.util.Set;
import java.util.TreeSet;

/** The face of the document, as the compiled class has it. */
public final class FaceTest {
    private static final Check CHECK = new Check("FaceTest");

    private static final String[] METHODS = {
        "feed int long", "pit", "fault", "way int int", "fall int boolean", "count int",
        "man int boolean boolean", "lamp int int", "told int int", "light int int",
        "moves int int boolean", "soonest int int int int boolean", "last int int boolean",
        "open int int boolean", "most int", "cut int", "up int int", "lent int int",
        "mark int int int", "tells int int int int", "toldBest int int int int",
        "byTwo int int int int int int", "tooLate int int int", "go int", "clear",
        "judge int int int int", "opens int int", "safe int int", "safest int int int",
        "knock int int", "keep int", "goBack int"};

    public static void main(String[] args) throws Exception {
        face();
        names();
        CHECK.end();
    }

    private static void face() throws Exception {
        Class<?> type = LastLamps.class;
        CHECK.holds("public final", Modifier.isPublic(type.getModifiers()) && Modifier.isFinal(type.getModifiers()));
        Set<String> found = new TreeSet<>();
        for (Method m : type.getDeclaredMethods()) {
            if (Modifier.isPrivate(m.getModifiers())) continue;
            CHECK.holds(m + " is public, of the object, int", m.getModifiers() == Modifier.PUBLIC && m.getReturnType() == int.class);
            StringBuilder name = new StringBuilder(m.getName());
            for (Class<?> p : m.getParameterTypes()) name.append(' ').append(p.getName());
            found.add(name.toString());
        }
        Set<String> due = new TreeSet<>(Arrays.asList(METHODS));
        CHECK.holds("methods " + found, found.equals(due));
        Constructor<?>[] made = type.getDeclaredConstructors();
        CHECK.holds("one constructor", made.length == 1 && made[0].getParameterCount() == 0 && Modifier.isPublic(made[0].getModifiers()));
        String[] names = {"NONE", "UNKNOWN", "OUTSIDE", "NOT", "FULL"};
        int[] values = {-1, -1001, -1002, -1003, -1004};
        for (int i = 0; i < names.length; i++) CHECK.due(names[i], type.getField(names[i]).getInt(null), values[i]);
        for (Field f : type.getDeclaredFields()) {
            CHECK.holds(f + " is private, or a constant of the face", Modifier.isPrivate(f.getModifiers()) || Arrays.asList(names).contains(f.getName()));
        }
    }

    /** No private method bears the name of a public one. */
    private static void names() {
        Set<String> names = new TreeSet<>();
        for (String m : METHODS) names.add(m.split(" ")[0]);
        for (Method m : LastLamps.class.getDeclaredMethods()) {
            CHECK.holds(m + " has a name of its own", Modifier.isPublic(m.getModifiers()) || !names.contains(m.getName()));
        }
        for (Class<?> c : LastLamps.class.getDeclaredClasses()) {
            for (Method m : c.getDeclaredMethods()) CHECK.holds(m + " has a name of its own", !names.contains(m.getName()));
        }
    }
}
