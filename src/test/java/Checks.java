/** Counts answers that are not as due; each test ends by {@link #end()}. */
final class Checks {
    /** Of later calls of an object nothing is promised. */
    static final int MOST_CALLS = 512;

    private int made = 0;
    private int wrong = 0;

    void due(String what, long got, long want) {
        made++;
        if (got != want) {
            wrong++;
            System.out.println(what + " answered " + got + ", due is " + want);
        }
    }

    void isTrue(String what, boolean holds) {
        due(what, holds ? 1 : 0, 1);
    }

    /** Runs lines of calls (see Call) on a new object; what names the document's sentence. */
    void run(String what, String lines) {
        FieldBeeps x = new FieldBeeps();
        int calls = 0;
        for (Call call : Call.all(lines)) {
            long got = call.on(x);
            calls += call.calls;
            if (call.hasDue) {
                due(what + ": " + call.line, got, call.due);
            }
        }
        isTrue(what + ": " + calls + " calls", calls <= MOST_CALLS);
    }

    void end() {
        System.out.println(made + " checks, " + wrong + " wrong");
        if (wrong != 0 || made == 0) {
            System.exit(1);
        }
    }

    /** Feeds a text and reads it: what text() answers. */
    static int read(FieldBeeps x, String text) {
        for (int i = 0; i < text.length(); i++) {
            x.feed(text.charAt(i));
        }
        return x.text();
    }

    /** A new object whose rule is this text. */
    static FieldBeeps ruled(String text) {
        FieldBeeps x = new FieldBeeps();
        int number = read(x, text);
        if (number != 1 || x.force(number) != 0) {
            throw new IllegalStateException(text + " answered " + number);
        }
        return x;
    }
}
