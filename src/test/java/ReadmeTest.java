import java.io.IOException;
import java.nio.file.Files;
import java.nio.file.Path;
import java.util.List;
import java.util.regex.Matcher;
import java.util.regex.Pattern;

/** README.md's examples: each call in them answers the number that stands behind it. */
public final class ReadmeTest {
    private static final Path README = Path.of("README.md");
    private static final Pattern CALL = Pattern.compile("x\\.(\\w+\\(.*\\)); +// (-?\\w+): .+");
    private static final Pattern FED = Pattern.compile("for \\(byte letter : \"(.*)\"\\.getBytes\\(\\)\\) \\{");
    private static final int EXAMPLES = 2;
    private static final Checks c = new Checks();

    public static void main(String[] args) throws IOException {
        String text = Files.readString(README);
        String[] pieces = text.split("```");
        int examples = 0;
        for (int i = 1; i < pieces.length; i += 2) {
            if (pieces[i].startsWith("java\n")) {
                example(pieces[i].substring(5));
                examples++;
            }
        }
        c.due("examples in README.md", examples, EXAMPLES);
        refusals(text);
        c.end();
    }

    private static void example(String lines) {
        StringBuilder run = new StringBuilder();
        for (String line : lines.split("\n")) {
            run.append(asCall(line)).append('\n');
        }
        c.run("README.md", run.toString());
    }

    /** A line of an example as one of a run. */
    private static String asCall(String line) {
        Matcher call = CALL.matcher(line);
        if (call.matches()) {
            return call.group(1) + " = " + call.group(2);
        }
        Matcher fed = FED.matcher(line);
        if (fed.matches()) {
            return "feeds(" + fed.group(1) + ")";
        }
        List<String> others = List.of("FieldBeeps x = new FieldBeeps();", "    x.feed(letter);", "}");
        c.isTrue("README.md has an answer behind: " + line, others.contains(line));
        return "";
    }

    private static void refusals(String text) {
        c.isTrue("NONE is told", text.contains("| `NONE` " + FieldBeeps.NONE + " |"));
        c.isTrue("BAD is told", text.contains("| `BAD` " + FieldBeeps.BAD + " |"));
        c.isTrue("STATE is told", text.contains("| `STATE` " + FieldBeeps.STATE + " |"));
        c.isTrue("FULL is told", text.contains("| `FULL` " + FieldBeeps.FULL + " |"));
        c.isTrue("what a FAULT does to the tape is told", text.contains("`text` empties the tape by\na fault"));
        c.isTrue("what -12 leaves is told", text.contains("`finds` that answers -12 has laid what stood ahead"));
    }
}
