import java.util.ArrayList;
import java.util.LinkedHashMap;
import java.util.List;
import java.util.Map;
import java.util.TreeMap;
import java.util.TreeSet;
import java.util.Set;
import java.util.regex.Matcher;
import java.util.regex.Pattern;

/**
 * How deep the calls of a program go that are no recursion, read from its text: classes begin at
 * four blanks, methods at four or eight. A call by a name that several classes have may be any.
 */
final class CallDepth {
    private static final Pattern CLASS = Pattern.compile(" {4}private static final class (\\w+) \\{");
    private static final Pattern METHOD = Pattern.compile(" {4,8}(?:public|private) (?:static )?(?:\\S+ )?(\\w+)\\(.*\\{");
    private static final Pattern CALL = Pattern.compile("(\\.)?\\b([a-z]\\w*|new [A-Z]\\w*)\\(");

    /** Calls by methods, both as class.name. */
    private final Map<String, Set<String>> calls = new TreeMap<>();
    private final Map<String, Integer> depths = new TreeMap<>();

    CallDepth(String code) {
        Map<String, List<String>> bodies = bodies(code);
        for (Map.Entry<String, List<String>> e : bodies.entrySet()) {
            Set<String> called = new TreeSet<>();
            for (String line : e.getValue()) called.addAll(calledIn(line, e.getKey(), bodies.keySet()));
            called.remove(e.getKey());
            calls.put(e.getKey(), called);
        }
    }

    private static Map<String, List<String>> bodies(String code) {
        Map<String, List<String>> bodies = new LinkedHashMap<>();
        String type = "LastLamps", method = null, end = "";
        for (String line : code.split("\n")) {
            Matcher c = CLASS.matcher(line), m = METHOD.matcher(line);
            if (c.matches()) {
                type = c.group(1);
            } else if (m.matches()) {
                method = type + "." + m.group(1);
                bodies.put(method, new ArrayList<>());
                end = line.replaceAll("\\S.*", "}");
            } else if (line.equals(end)) {
                method = null;
            } else if (method != null) {
                bodies.get(method).add(line);
            }
        }
        return bodies;
    }

    private static Set<String> calledIn(String line, String from, Set<String> methods) {
        Set<String> called = new TreeSet<>();
        Matcher m = CALL.matcher(line);
        while (m.find()) {
            String name = m.group(2);
            String own = from.substring(0, from.indexOf('.') + 1) + name;
            if (name.startsWith("new ")) {
                String type = name.substring(4);
                if (methods.contains(type + "." + type)) called.add(type + "." + type);
            } else if (m.group(1) == null) {
                String outer = "LastLamps." + name;
                if (methods.contains(own)) called.add(own);
                else if (methods.contains(outer)) called.add(outer);
            } else {
                for (String method : methods) {
                    if (method.endsWith("." + name) && !method.startsWith("LastLamps.")) called.add(method);
                }
            }
        }
        return called;
    }

    int methods() {
        return calls.size();
    }

    int deepest() {
        int most = 0;
        for (String method : calls.keySet()) most = Math.max(most, depth(method, 0));
        return most;
    }

    /** A method that calls none is one deep; a ring of methods, which no program here has, is a hundred. */
    private int depth(String method, int guard) {
        if (guard > 100) return 100;
        Integer known = depths.get(method);
        if (known != null) return known;
        int most = 0;
        for (String next : calls.get(method)) most = Math.max(most, depth(next, guard + 1));
        depths.put(method, most + 1);
        return most + 1;
    }
}
