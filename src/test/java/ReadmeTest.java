import java.lang.reflect.Method;
import java.nio.file.Files;
import java.nio.file.Path;
import java.util.Set;
import java.util.TreeSet;
import java.util.regex.Matcher;
import java.util.regex.Pattern;

/** The example of README.md answers as it says there, and has every call. */
public final class ReadmeTest {
    private static final Check CHECK = new Check("ReadmeTest");
    private static final Pattern EXAMPLE = Pattern.compile("(?s)```java\n(.*?)```");
    private static final Pattern TEXT = Pattern.compile("String text = \"([^\"]*)\";");
    private static final Pattern CALL = Pattern.compile("(?m)^x\\.(\\w+)\\(([^)]*)\\); *// (-?\\d+) : ");

    public static void main(String[] args) throws Exception {
        Matcher example = EXAMPLE.matcher(Files.readString(Path.of("README.md")));
        CHECK.holds("there is an example", example.find());
        String code = example.group(1);
        Matcher text = TEXT.matcher(code);
        CHECK.holds("it tells a pit", text.find());
        LastLamps x = new LastLamps();
        Check.feed(x, text.group(1));
        Set<String> seen = new TreeSet<>(Set.of("feed"));
        Matcher call = CALL.matcher(code);
        while (call.find()) {
            seen.add(call.group(1));
            CHECK.due(call.group(1) + "(" + call.group(2) + ")", answer(x, call.group(1), call.group(2)), Long.parseLong(call.group(3)));
        }
        for (Method m : LastLamps.class.getMethods()) {
            if (m.getDeclaringClass() == LastLamps.class) CHECK.holds(m.getName() + " is in the example", seen.contains(m.getName()));
        }
        CHECK.end();
    }

    private static int answer(LastLamps x, String name, String given) throws Exception {
        String[] words = given.isEmpty() ? new String[0] : given.split(", ");
        Object[] values = new Object[words.length];
        Class<?>[] types = new Class<?>[words.length];
        for (int i = 0; i < words.length; i++) {
            boolean isTruth = words[i].equals("true") || words[i].equals("false");
            types[i] = isTruth ? boolean.class : int.class;
            values[i] = isTruth ? (Object) words[i].equals("true") : (Object) number(words[i]);
        }
        return (int) LastLamps.class.getMethod(name, types).invoke(x, values);
    }

    private static int number(String word) {
        return word.equals("LastLamps.NONE") ? LastLamps.NONE : Integer.parseInt(word);
    }
}
