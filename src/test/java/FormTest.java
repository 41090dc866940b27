import java.nio.file.Files;
import java.nio.file.Path;
import java.util.ArrayList;
import java.util.List;
import java.util.Map;
import java.util.Set;
import java.util.TreeMap;
import java.util.TreeSet;
import java.util.regex.Matcher;
import java.util.regex.Pattern;

/** The rules of LANGUAGE.md that can be seen in the class's own lines: words, library, lengths, depth of calls. */
public final class FormTest {
    private static final String[] RULED_OUT = {"throw", "try", "catch", "synchronized", "assert", "import", "package",
        "->", "::", "hashCode", "toString", "equals", "Exact", "protected", "instanceof", "double", "float"};
    private static final Set<String> LIBRARY =
        Set.of("System.arraycopy", "Math.max", "Math.min", "Integer.bitCount");
    private static final int MOST_LINES = 60;
    private static final int MOST_DEEP = 8;
    private static final Pattern METHOD = Pattern.compile(
        "(?m)^ +(?:(?:public|private|static|final) )*(?:(?:int|long|boolean|void|byte) (\\w+)|(?:public )(SevenOnStrike))"
        + "\\([^)]*\\) \\{");

    public static void main(String[] args) throws Exception {
        String code = Files.readString(Path.of("src/main/java/SevenOnStrike.java"))
            .replaceAll("(?s)/\\*.*?\\*/", "").replaceAll("//[^\n]*", "");
        ruledOut(code);
        library(code);
        Map<String, String> bodies = bodies(code);
        Due.holds("the methods are found: " + bodies.keySet(), bodies.size() >= 60);
        lengths(bodies);
        depth(bodies);
        Due.end();
    }

    private static void ruledOut(String code) {
        for (String word : RULED_OUT) {
            String whole = word.matches("\\w+") && !word.equals("Exact") ? "\\b" + word + "\\b" : word;
            Due.holds("no " + word + " in the class", !Pattern.compile(whole).matcher(code).find());
        }
    }

    private static void library(String code) {
        Set<String> own = new TreeSet<>();
        Matcher classes = Pattern.compile("\\bclass (\\w+)").matcher(code);
        while (classes.find()) {
            own.add(classes.group(1));
        }
        Matcher uses = Pattern.compile("\\b([A-Z][a-z]\\w*)\\.(\\w+)").matcher(code);
        while (uses.find()) {
            Due.holds(uses.group() + " is in the library that is left",
                own.contains(uses.group(1)) || LIBRARY.contains(uses.group()));
        }
    }

    /** Methods by their names; like names of several classes are put together, so that no depth is missed. */
    private static Map<String, String> bodies(String code) {
        Map<String, String> bodies = new TreeMap<>();
        Matcher methods = METHOD.matcher(code);
        while (methods.find()) {
            String name = methods.group(1) == null ? methods.group(2) : methods.group(1);
            bodies.merge(name, code.substring(methods.end(), endOf(code, methods.end())), String::concat);
        }
        return bodies;
    }

    private static int endOf(String code, int start) {
        int open = 1;
        int at = start;
        while (open > 0) {
            open += code.charAt(at) == '{' ? 1 : code.charAt(at) == '}' ? -1 : 0;
            at++;
        }
        return at;
    }

    private static void lengths(Map<String, String> bodies) {
        bodies.forEach((name, body) ->
            Due.holds(name + " is short", body.lines().count() <= MOST_LINES));
    }

    private static void depth(Map<String, String> bodies) {
        for (String name : bodies.keySet()) {
            List<String> deepest = deepest(name, bodies, new ArrayList<>());
            Due.holds("at most " + MOST_DEEP + " deep: " + deepest, deepest.size() <= MOST_DEEP);
        }
    }

    private static List<String> deepest(String name, Map<String, String> bodies, List<String> above) {
        List<String> now = new ArrayList<>(above);
        now.add(name);
        if (above.contains(name)) {
            Due.holds("no recursion: " + now, false);
            return now;
        }
        List<String> deepest = now;
        Matcher calls = Pattern.compile("\\b(\\w+)\\(").matcher(bodies.get(name));
        while (calls.find()) {
            if (bodies.containsKey(calls.group(1))) {
                List<String> below = deepest(calls.group(1), bodies, now);
                deepest = below.size() > deepest.size() ? below : deepest;
            }
        }
        return deepest;
    }
}
