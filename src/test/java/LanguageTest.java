import java.io.IOException;
import java.lang.reflect.Modifier;
import java.nio.file.Files;
import java.nio.file.Path;
import java.util.Arrays;
import java.util.regex.Matcher;
import java.util.regex.Pattern;

/** Rules of ../shared/LANGUAGE.md that can be seen in the class's text alone. */
public final class LanguageTest {
    private static final Path SOURCE = Path.of("src/main/java/FieldBeeps.java");
    private static final int MOST_LINES = 60;
    private static final int MOST_PARAMETERS = 7;
    private static final int MOST_CLASSES = 12;
    private static final int MOST_FIELDS = 20;
    private static final Checks c = new Checks();

    public static void main(String[] args) throws IOException {
        String text = Files.readString(SOURCE);
        for (int i = 0; i < text.length(); i++) {
            c.isTrue("sign " + i + " is of 1 to 127", text.charAt(i) > 0 && text.charAt(i) < 128);
        }
        String code = bare(text);
        words(code);
        signs(code);
        methods(code);
        classes(code);
        c.end();
    }

    /** Without comments, and with empty texts and signs. */
    private static String bare(String text) {
        return text.replaceAll("(?s)/\\*.*?\\*/", "").replaceAll("//[^\n]*", "")
                .replaceAll("\"[^\"\n]*\"", "\"\"").replaceAll("'[^'\n]'", "' '");
    }

    private static void words(String code) {
        String[] ruledOut = {"throw", "throws", "try", "catch", "finally", "synchronized", "assert", "package", "var",
            "protected", "volatile", "transient", "native", "hashCode", "toString", "Object", "Exception", "Error",
            "Thread", "Random", "random", "nanoTime", "currentTimeMillis", "getenv", "getProperty", "reflect",
            "stream", "Optional", "Map", "Set", "NaN"};
        for (String word : ruledOut) {
            c.isTrue("no '" + word + "'", !Pattern.compile("\\b" + word + "\\b").matcher(code).find());
        }
        c.isTrue("no name that ends in Exact", !Pattern.compile("\\w+Exact\\b").matcher(code).find());
    }

    private static void signs(String code) {
        c.isTrue("no lambda", !code.contains("->"));
        c.isTrue("no method reference", !code.contains("::"));
        c.isTrue("no annotation", !code.contains("@"));
        c.isTrue("no texts joined by +", !code.contains("\" +") && !code.contains("+ \""));
        c.isTrue("no static initialiser", !Pattern.compile("static\\s*\\{").matcher(code).find());
        c.isTrue("no import", !Pattern.compile("\\bimport\\b").matcher(code).find());
        Matcher m = Pattern.compile("\\bstatic\\b(?![^;={]*\\()[^;={]*[;=]").matcher(code);
        while (m.find()) {
            c.isTrue("final: " + m.group(), m.group().contains("final"));
        }
    }

    private static void methods(String code) {
        Matcher m = Pattern.compile("(?m)^ +((?:\\w+(?:\\[\\])? )+)?(\\w+)\\(([^()]*)\\) \\{$").matcher(code);
        int found = 0;
        while (m.find()) {
            if (m.group(2).matches("if|for|while|switch")) {
                continue;
            }
            found++;
            String name = m.group(2);
            int parameters = m.group(3).isBlank() ? 0 : m.group(3).split(",").length;
            c.isTrue(name + " takes " + parameters, parameters <= MOST_PARAMETERS);
            int lines = linesFrom(code, m.end() - 1);
            c.isTrue(name + " has " + lines + " lines", lines <= MOST_LINES);
        }
        c.isTrue("methods are found: " + found, found > 60);
    }

    private static int linesFrom(String code, int opening) {
        int open = 0;
        int lines = 1;
        for (int i = opening; i < code.length(); i++) {
            char sign = code.charAt(i);
            open += sign == '{' ? 1 : sign == '}' ? -1 : 0;
            lines += sign == '\n' ? 1 : 0;
            if (open == 0) {
                break;
            }
        }
        return lines;
    }

    private static void classes(String code) {
        Matcher m = Pattern.compile("\\bclass \\w+").matcher(code);
        int found = 0;
        while (m.find()) {
            found++;
        }
        c.isTrue("classes: " + found, found <= MOST_CLASSES);
        for (Class<?> inside : FieldBeeps.class.getDeclaredClasses()) {
            c.isTrue(inside + " is static", Modifier.isStatic(inside.getModifiers()));
            c.isTrue(inside + " is private", Modifier.isPrivate(inside.getModifiers()));
            long fields = Arrays.stream(inside.getDeclaredFields())
                    .filter(f -> !Modifier.isStatic(f.getModifiers())).count();
            c.isTrue(inside + " has " + fields + " fields", fields <= MOST_FIELDS);
        }
    }
}
