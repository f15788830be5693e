import java.util.ArrayList;
import java.util.List;
import java.util.regex.Matcher;
import java.util.regex.Pattern;

/**
 * A call as it is written in a line of a run, with the answer that is due: "told(0, 5) = 63". There
 * may be no answer ("walk(0)"), many calls ("99 times plough()"), a text that is fed byte by byte
 * ("feeds(digs 1;)"), one that is read, too ("read(digs 1;hears 0;worth 1;) = 1"; \n is byte 10).
 */
final class Call {
    private static final Pattern LINE = Pattern.compile("(?:(\\d+) times )?(\\w+)\\((.*)\\)(?: = (-?\\w+))?");

    final String line;
    /** How many calls of an object it is. */
    final int calls;
    final boolean hasDue;
    final long due;
    private final int times;
    private final String name;
    private final String text;
    private final int[] a;

    private Call(String line, Matcher m) {
        this.line = line;
        times = m.group(1) == null ? 1 : Integer.parseInt(m.group(1));
        name = m.group(2);
        boolean isFed = name.equals("feeds") || name.equals("read");
        text = isFed ? m.group(3).replace("\\n", "\n") : "";
        a = isFed ? new int[0] : numbers(m.group(3));
        hasDue = m.group(4) != null;
        due = hasDue ? number(m.group(4)) : 0;
        calls = times * (isFed ? text.length() + (name.equals("read") ? 1 : 0) : 1);
    }

    static Call of(String line) {
        Matcher m = LINE.matcher(line);
        if (!m.matches()) {
            throw new IllegalArgumentException("no call: " + line);
        }
        return new Call(line, m);
    }

    /** The calls of some lines; what stands behind a # is no call. */
    static List<Call> all(String lines) {
        List<Call> calls = new ArrayList<>();
        for (String line : lines.split("\n")) {
            String bare = line.replaceAll(" *#.*", "").strip();
            if (!bare.isEmpty()) {
                calls.add(of(bare));
            }
        }
        return calls;
    }

    private static int[] numbers(String list) {
        String[] words = list.isBlank() ? new String[0] : list.split(", ");
        int[] all = new int[words.length];
        for (int i = 0; i < words.length; i++) {
            all[i] = (int) number(words[i]);
        }
        return all;
    }

    private static long number(String word) {
        switch (word) {
            case "NONE": return FieldBeeps.NONE;
            case "BAD": return FieldBeeps.BAD;
            case "STATE": return FieldBeeps.STATE;
            case "FULL": return FieldBeeps.FULL;
            case "NO": return FieldBeeps.NO;
            case "MAX": return Integer.MAX_VALUE;
            case "MIN": return Integer.MIN_VALUE;
            default: return Long.parseLong(word);
        }
    }

    /** What the last of its calls answers. */
    long on(FieldBeeps x) {
        long answer = 0;
        for (int i = 0; i < times; i++) {
            answer = once(x);
        }
        return answer;
    }

    private long once(FieldBeeps x) {
        switch (name) {
            case "feeds": return fed(x);
            case "read": fed(x); return x.text();
            case "find": return x.find(a[0], a[1], a[2]);
            case "set": return x.set(a[0], a[1], a[2]);
            case "told": return x.told(a[0], a[1]);
            case "feed": return x.feed(a[0]);
            case "text": return x.text();
            case "force": return x.force(a[0]);
            case "beep": return x.beep(a[0]);
            case "walk": return x.walk(a[0]);
            case "plough": return x.plough();
            case "found": return x.found(a[0], a[1]);
            case "years": return x.years(a[0]);
            case "soonest": return x.soonest(a[0]);
            case "strips": return x.strips(a[0], a[1]);
            case "better": return x.better();
            case "order": return x.order(a[0], a[1]);
            default: return onMap(x);
        }
    }

    private long onMap(FieldBeeps x) {
        switch (name) {
            case "pot": return x.pot();
            case "came": return x.came(a[0], a[1]);
            case "dots": return x.dots(a[0]);
            case "thick": return x.thick();
            case "judge": return x.judge(a[0], a[1]);
            case "unseen": return x.unseen();
            case "left": return x.left(a[0]);
            case "drawn": return x.drawn(a[0]);
            case "odds": return x.odds(a[0], a[1], a[2], a[3]);
            case "image": return x.image();
            case "back": return x.back();
            case "count": return x.count(a[0]);
            case "sheet": return x.sheet(a[0], a[1], a[2]);
            case "cell": return x.cell(a[0], a[1], a[2]);
            case "copy": return x.copy(a[0], a[1], a[2], a[3], a[4]);
            case "finds": return x.finds(a[0], a[1], a[2], a[3]);
            case "taken": return x.taken(a[0], a[1]);
            default: throw new IllegalArgumentException("no such call: " + line);
        }
    }

    private long fed(FieldBeeps x) {
        long answer = 0;
        for (int i = 0; i < text.length(); i++) {
            answer = x.feed(text.charAt(i));
        }
        return answer;
    }
}
