import java.io.IOException;
import java.lang.reflect.Modifier;
import java.nio.file.Files;
import java.nio.file.Path;
import java.util.Arrays;
import java.util.Map;
import java.util.Set;
import java.util.TreeMap;
import java.util.TreeSet;
import java.util.regex.Matcher;
import java.util.regex.Pattern;

/** Rules of ../shared/LANGUAGE.md that can be seen in the class's text alone. */
public final class LanguageTest {
    private static final Path SOURCE = Path.of("src/main/java/FieldBeeps.java");
    private static final int MOST_LINES = 60;
    private static final int MOST_PARAMETERS = 7;
    private static final int MOST_CLASSES = 12;
    private static final int MOST_FIELDS = 20;
    private static final int MOST_DEEP = 8;
    /** These two call one another; a count of what is open guards them. */
    private static final Set<String> RECURSION = Set.of("readRank", "readOne");
    private static final Checks c = new Checks();

    public static void main(String[] args) throws IOException {
        String text = Files.readString(SOURCE);
        for (int i = 0; i < text.length(); i++) {
            c.isTrue("sign " + i + " is of 1 to 127", text.charAt(i) > 0 && text.charAt(i) < 128);
        }
        String code = bare(text);
        words(code);
        signs(code);
        methods(code);
        classes(code);
        c.end();
    }

    /** Without comments, and with empty texts and signs. */
    private static String bare(String text) {
        return text.replaceAll("(?s)/\\*.*?\\*/", "").replaceAll("//[^\n]*", "")
                .replaceAll("\"[^\"\n]*\"", "\"\"").replaceAll("'[^'\n]'", "' '");
    }

    private static void words(String code) {
        String[] ruledOut = {"throw", "throws", "try", "catch", "finally", "synchronized", "assert", "package", "var",
            "protected", "volatile", "transient", "native", "hashCode", "toString", "Object", "Exception", "Error",
            "Thread", "Random", "random", "nanoTime", "currentTimeMillis", "getenv", "getProperty", "reflect",
            "stream", "Optional", "Map", "Set", "NaN"};
        for (String word : ruledOut) {
            c.isTrue("no '" + word + "'", !Pattern.compile("\\b" + word + "\\b").matcher(code).find());
        }
        c.isTrue("no name that ends in Exact", !Pattern.compile("\\w+Exact\\b").matcher(code).find());
    }

    private static void signs(String code) {
        c.isTrue("no lambda", !code.contains("->"));
        c.isTrue("no method reference", !code.contains("::"));
        c.isTrue("no annotation", !code.contains("@"));
        c.isTrue("no texts joined by +", !code.contains("\" +") && !code.contains("+ \""));
        c.isTrue("no static initialiser", !Pattern.compile("static\\s*\\{").matcher(code).find());
        c.isTrue("no import", !Pattern.compile("\\bimport\\b").matcher(code).find());
        Matcher m = Pattern.compile("\\bstatic\\b(?![^;={]*\\()[^;={]*[;=]").matcher(code);
        while (m.find()) {
            c.isTrue("final: " + m.group(), m.group().contains("final"));
        }
    }

    private static void methods(String code) {
        Matcher m = Pattern.compile("(?m)^ +((?:\\w+(?:\\[\\])? )+)?(\\w+)\\(([^()]*)\\) \\{$").matcher(code);
        int found = 0;
        Map<String, String> bodies = new TreeMap<>();
        while (m.find()) {
            if (m.group(2).matches("if|for|while|switch")) {
                continue;
            }
            found++;
            String name = m.group(2);
            bodies.merge(name, bodyFrom(code, m.end() - 1), String::concat);
            int parameters = m.group(3).isBlank() ? 0 : m.group(3).split(",").length;
            c.isTrue(name + " takes " + parameters, parameters <= MOST_PARAMETERS);
            int lines = bodyFrom(code, m.end() - 1).split("\n").length;
            c.isTrue(name + " has " + lines + " lines", lines <= MOST_LINES);
        }
        c.isTrue("methods are found: " + found, found > 60);
        depths(bodies);
    }

    private static String bodyFrom(String code, int opening) {
        int open = 0;
        for (int i = opening; i < code.length(); i++) {
            char sign = code.charAt(i);
            open += sign == '{' ? 1 : sign == '}' ? -1 : 0;
            if (open == 0) {
                return code.substring(opening, i + 1);
            }
        }
        return code.substring(opening);
    }

    /** Methods of one name count as one that calls what each of them does. */
    private static void depths(Map<String, String> bodies) {
        Map<String, Set<String>> called = new TreeMap<>();
        for (String name : bodies.keySet()) {
            called.put(name, new TreeSet<>());
            Matcher m = Pattern.compile("\\b(\\w+)\\(").matcher(bodies.get(name));
            while (m.find()) {
                boolean isGuarded = RECURSION.contains(name) && RECURSION.contains(m.group(1));
                if (bodies.containsKey(m.group(1)) && !isGuarded) {
                    called.get(name).add(m.group(1));
                }
            }
        }
        for (String name : bodies.keySet()) {
            int deep = depthOf(name, called, 1);
            c.isTrue(name + " goes " + deep + " deep", deep <= MOST_DEEP);
        }
    }

    private static int depthOf(String name, Map<String, Set<String>> called, int at) {
        int deepest = 1;
        for (String next : called.get(name)) {
            // a recursion that isn't told of is deep enough to be seen
            deepest = Math.max(deepest, at > MOST_DEEP ? MOST_DEEP : 1 + depthOf(next, called, at + 1));
        }
        return deepest;
    }

    private static void classes(String code) {
        Matcher m = Pattern.compile("\\bclass \\w+").matcher(code);
        int found = 0;
        while (m.find()) {
            found++;
        }
        c.isTrue("classes: " + found, found <= MOST_CLASSES);
        for (Class<?> inside : FieldBeeps.class.getDeclaredClasses()) {
            c.isTrue(inside + " is static", Modifier.isStatic(inside.getModifiers()));
            c.isTrue(inside + " is private", Modifier.isPrivate(inside.getModifiers()));
            long fields = Arrays.stream(inside.getDeclaredFields())
                    .filter(f -> !Modifier.isStatic(f.getModifiers())).count();
            c.isTrue(inside + " has " + fields + " fields", fields <= MOST_FIELDS);
        }
    }
}
