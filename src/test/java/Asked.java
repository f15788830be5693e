import java.util.ArrayList;
import java.util.List;

/**
 * All that can be asked of an object, whose state is told by the calls that led to it. Some answers
 * show only what other calls change (what an image keeps, what stands on the tape, which numbers a
 * sheet holds), and an object is good for 512 calls: so each group of questions is put to a new
 * object, with the same calls ahead.
 */
final class Asked {
    private static final List<List<Call>> GROUPS = List.of(
            field(), whatIfs(), strips(), imageKept(), texts(), tape(), sizes(), items(0), items(1), items(2), items(3));

    private final List<Call> questions = new ArrayList<>();
    private final List<Long> answers = new ArrayList<>();

    /** What an object answers to everything, once these calls were made. */
    static Asked after(List<Call> ahead) {
        Asked all = new Asked();
        int callsAhead = 0;
        for (Call call : ahead) {
            callsAhead += call.calls;
        }
        for (List<Call> group : GROUPS) {
            FieldBeeps x = new FieldBeeps();
            for (Call call : ahead) {
                call.on(x);
            }
            int calls = callsAhead;
            for (Call call : group) {
                calls += call.calls;
                all.questions.add(call);
                all.answers.add(call.on(x));
            }
            if (calls > Checks.MOST_CALLS) {
                throw new IllegalStateException("more calls than an object is good for: " + calls);
            }
        }
        return all;
    }

    /** Each answer is as due. */
    void dueAs(Checks c, String what, Asked want) {
        for (int i = 0; i < want.answers.size(); i++) {
            c.due(what + ", then " + questions.get(i).line, answers.get(i), want.answers.get(i));
        }
    }

    boolean isAs(Asked other) {
        return answers.equals(other.answers);
    }

    private static void add(List<Call> calls, String form, Object... numbers) {
        calls.add(Call.of(String.format(form, numbers)));
    }

    private static void addFinds(List<Call> calls) {
        for (int f = 0; f < 12; f++) {
            for (int what = 0; what < 10; what++) {
                add(calls, "told(%d, %d)", f, what);
            }
        }
    }

    private static void addCounts(List<Call> calls) {
        for (int what = 0; what < 9; what++) {
            add(calls, "count(%d)", what);
        }
    }

    private static List<Call> field() {
        List<Call> calls = new ArrayList<>();
        addCounts(calls);
        addFinds(calls);
        for (int cell = 0; cell < 48; cell++) {
            add(calls, "beep(%d)", cell);
            add(calls, "dots(%d)", cell);
        }
        add(calls, "pot()");
        add(calls, "thick()");
        add(calls, "unseen()");
        add(calls, "left(0)");
        add(calls, "left(1)");
        return calls;
    }

    private static List<Call> whatIfs() {
        List<Call> calls = new ArrayList<>();
        for (int n = 0; n < 21; n++) {
            add(calls, "years(%d)", n);
        }
        add(calls, "soonest(0)");
        add(calls, "soonest(1)");
        add(calls, "better()");
        for (int plate = 1; plate < 10; plate++) {
            add(calls, "order(%d, %d)", plate, 10 - plate);
            add(calls, "drawn(%d)", 7919 * plate);
            add(calls, "odds(%d, 20, %d, 0)", plate, plate / 2);
            add(calls, "odds(%d, 20, %d, 1)", plate, plate / 2);
        }
        for (int f = 0; f < 12; f++) {
            add(calls, "came(%d, 0)", f);
            add(calls, "came(%d, 1)", f);
            add(calls, "came(%d, 8)", f);
            add(calls, "came(%d, 19)", f);
            for (int k = 0; k < 6; k++) {
                add(calls, "taken(%d, %d)", f, k);
            }
        }
        return calls;
    }

    private static List<Call> strips() {
        List<Call> calls = new ArrayList<>();
        for (int bits = 0; bits < 64; bits++) {
            add(calls, "found(%d, 0)", bits);
            add(calls, "found(%d, 1)", bits);
        }
        for (int k = 0; k < 7; k++) {
            add(calls, "strips(%d, 0)", k);
            add(calls, "strips(%d, 1)", k);
        }
        return calls;
    }

    private static List<Call> imageKept() {
        List<Call> calls = new ArrayList<>();
        add(calls, "back()");
        addCounts(calls);
        addFinds(calls);
        add(calls, "find(0, 0, 11)");
        return calls;
    }

    private static List<Call> texts() {
        List<Call> calls = new ArrayList<>();
        for (int text = 0; text < 6; text++) {
            add(calls, "force(%d)", text);
            for (int f = 0; f < 12; f++) {
                add(calls, "told(%d, 9)", f);
            }
            add(calls, "found(63, 0)");
            add(calls, "found(63, 1)");
            add(calls, "left(1)");
            for (int cell = 0; cell < 48; cell += 5) {
                add(calls, "beep(%d)", cell);
            }
        }
        return calls;
    }

    /** What stands on the tape shows by the text, or by the place of the fault, that it is. */
    private static List<Call> tape() {
        List<Call> calls = new ArrayList<>();
        add(calls, "feed(59)");
        add(calls, "text()");
        for (int text = 1; text < 6; text++) {
            add(calls, "force(%d)", text);
        }
        for (int f = 0; f < 12; f++) {
            add(calls, "told(%d, 9)", f);
        }
        add(calls, "found(63, 0)");
        addCounts(calls);
        return calls;
    }

    private static List<Call> sizes() {
        List<Call> calls = new ArrayList<>();
        for (int sheet = 0; sheet < 4; sheet++) {
            for (int sort = 0; sort < 3; sort++) {
                add(calls, "finds(%d, %d, 0, 0)", sheet, sort);
            }
            for (int n = 0; n <= 41; n++) {
                add(calls, "copy(%d, 0, %d, 0, %d)", sheet, sheet, n);
            }
            add(calls, "judge(%d, 0)", sheet);
            add(calls, "judge(%d, 1)", sheet);
        }
        return calls;
    }

    /** The numbers of a sheet show as FINDS that come by them; the image makes room for more. */
    private static List<Call> items(int sheet) {
        List<Call> calls = new ArrayList<>();
        add(calls, "image()");
        for (int from = 0; from < 12; from += 3) {
            for (int sort = 0; sort < 3; sort++) {
                add(calls, "finds(%d, %d, %d, 1)", sheet, sort, from);
            }
            for (int f = 0; f < 12; f++) {
                for (int what = 0; what < 4; what++) {
                    add(calls, "told(%d, %d)", f, what);
                }
            }
            add(calls, "back()");
        }
        return calls;
    }
}
