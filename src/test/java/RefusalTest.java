import java.util.ArrayList;
import java.util.List;

/**
 * Refusals, and that they change nothing: each refused call is made on an object in some state, and
 * then everything is asked that can be (see Asked), of it and of one in the same state on which the
 * call was not made. What a promise itself says of a refusal (text, finds) has rows of its own. Last
 * those calls that only ask: they change nothing either.
 */
public final class RefusalTest {
    private static final Checks c = new Checks();

    /** A new object. */
    private static final String NEW = "";

    /** Some of everything: FINDS that LIE and that are TAKEN, an IMAGE that is otherwise, three texts. */
    private static final String SOME = """
            read(digs tone < 70 and x < 5;hears 5;worth loud - y;) = 1
            read(digs 1;hears 0;worth 7 + x;) = 2
            force(1)
            find(1, 1, 19)
            find(0, 3, 54)
            find(2, 3, 11)
            find(4, 12, 45)
            find(5, 20, 94)
            set(0, 0, 4)
            set(1, 0, 5)
            walk(0)
            image()
            plough()
            find(3, 44, 136)
            find(5, 38, 27)
            set(0, 0, 6)
            set(1, 0, 4)
            walk(1)
            force(2)
            plough()
            plough()
            sheet(0, 0, 7)
            cell(0, 0, 3)
            cell(0, 1, 40)
            cell(0, 2, 87)
            cell(0, 3, 1)
            cell(0, 4, 33)
            cell(0, 5, 12)
            cell(0, 6, 1)
            sheet(1, 2, 12)
            cell(1, 0, 5)
            cell(1, 1, 47)
            cell(1, 2, 209)
            cell(1, 3, 6)
            cell(1, 4, 0)
            cell(1, 5, 11)
            cell(1, 6, 2)
            cell(1, 7, 9)
            cell(1, 8, 31)
            cell(1, 9, 4)
            cell(1, 10, 21)
            cell(1, 11, 75)
            sheet(3, 2, 3)
            """;
    /** What stands on the tape there: a text but for its last sign, which is asked for. */
    private static final String TAPE = "feeds(digs y;hears 3;worth 2 * x + 1)";

    /** 12 FINDS, 6 TEXTS, sheets of 40, WET and PLATE as high as can be. */
    private static final String FULL = """
            12 times find(1, 17, 38)
            set(2, 3, 18)
            set(3, 3, 20)
            set(4, 4, 9)
            set(2, 5, 0)
            set(0, 0, 9)
            set(1, 0, 9)
            walk(0)
            image()
            read(digs1;hears1;worth2;) = 1
            read(digs1;hears1;worth x;) = 2
            read(digs0;hears1;worth3;) = 3
            read(digs1;hears99;worth4;) = 4
            read(digs y;hears1;worth5;) = 5
            force(5)
            sheet(0, 0, 40)
            sheet(1, 0, 40)
            sheet(2, 1, 40)
            sheet(3, 2, 40)
            cell(0, 39, 1)
            cell(1, 0, 1)
            cell(2, 7, 1)
            feeds(digs)
            """;

    /** 160 bytes on the tape. */
    private static final String LONG = """
            find(1, 17, 38)
            find(4, 18, 39)
            feeds(digs 1;hears 2;worth 3 + x;)
            135 times feed(32)
            """;

    /** As late as THE YEAR can be, and as deep as a FIND can lie. */
    private static final String LATE = """
            find(4, 20, 11)
            find(5, 28, 204)
            99 times plough()
            find(3, 44, 209)
            find(0, 9, 201)
            image()
            walk(5)
            """;

    /** Calls that are refused whatever the state is, by their numbers alone. */
    private static final String ALWAYS = """
            find(-1, 0, 11) = BAD
            find(6, 0, 11) = BAD
            find(MIN, 0, 11) = BAD
            find(MAX, 0, 11) = BAD
            find(0, -1, 11) = BAD
            find(0, 48, 11) = BAD
            find(0, MIN, 11) = BAD
            find(0, MAX, 11) = BAD
            find(0, 0, MIN) = BAD
            find(0, 0, -11) = BAD
            find(0, 0, -9) = BAD
            find(0, 0, -1) = BAD
            find(0, 0, 0) = BAD         # SIZE 0
            find(0, 0, 10) = BAD
            find(0, 0, 100) = BAD
            find(0, 0, 200) = BAD
            find(0, 0, 210) = BAD
            find(0, 0, 211) = BAD       # DEPTH 21
            find(0, 0, 219) = BAD
            find(0, 0, MAX) = BAD
            set(-1, 0, 1) = BAD
            set(5, 0, 1) = BAD
            set(MIN, 0, 1) = BAD
            set(MAX, 0, 1) = BAD
            set(0, 0, -1) = BAD
            set(0, 0, 10) = BAD
            set(0, 0, MIN) = BAD
            set(0, 0, MAX) = BAD
            set(1, 0, 0) = BAD
            set(1, 0, -1) = BAD
            set(1, 0, 10) = BAD
            set(1, 0, MIN) = BAD
            set(1, 0, MAX) = BAD
            set(2, 1, -1) = BAD
            set(2, 1, 48) = BAD
            set(2, 1, MIN) = BAD
            set(2, 1, MAX) = BAD
            set(3, 1, -1) = BAD
            set(3, 1, 21) = BAD
            set(3, 1, MIN) = BAD
            set(3, 1, MAX) = BAD
            set(4, 1, 0) = BAD
            set(4, 1, -1) = BAD
            set(4, 1, 10) = BAD
            set(4, 1, MIN) = BAD
            set(4, 1, MAX) = BAD
            set(2, -1, 1) = BAD
            set(3, -1, 1) = BAD
            set(4, -1, 1) = BAD
            set(2, 12, 1) = BAD
            set(3, 12, 1) = BAD
            set(4, 12, 1) = BAD
            set(2, MIN, 1) = BAD
            set(3, MAX, 1) = BAD
            set(4, 32, 1) = BAD         # a bit's place wraps at 32
            told(-1, 0) = BAD
            told(12, 0) = BAD
            told(32, 0) = BAD
            told(MIN, 0) = BAD
            told(MAX, 0) = BAD
            told(0, -1) = BAD
            told(0, 10) = BAD
            told(0, MIN) = BAD
            told(0, MAX) = BAD
            feed(-1) = BAD
            feed(256) = BAD
            feed(MIN) = BAD
            feed(MAX) = BAD
            force(-1) = BAD
            force(6) = BAD
            force(MIN) = BAD
            force(MAX) = BAD
            beep(-1) = BAD
            beep(48) = BAD
            beep(MIN) = BAD
            beep(MAX) = BAD
            walk(-1) = BAD
            walk(6) = BAD
            walk(32) = BAD
            walk(MIN) = BAD
            walk(MAX) = BAD
            found(-1, 0) = BAD
            found(64, 0) = BAD
            found(MIN, 0) = BAD
            found(MAX, 0) = BAD
            found(63, -1) = BAD
            found(63, 2) = BAD
            found(63, MIN) = BAD
            found(63, MAX) = BAD
            years(-1) = BAD
            years(21) = BAD
            years(MIN) = BAD
            years(MAX) = BAD
            soonest(-1) = BAD
            soonest(2) = BAD
            soonest(MIN) = BAD
            soonest(MAX) = BAD
            strips(-1, 0) = BAD
            strips(7, 0) = BAD
            strips(MIN, 0) = BAD
            strips(MAX, 0) = BAD
            strips(3, -1) = BAD
            strips(3, 2) = BAD
            strips(3, MIN) = BAD
            strips(3, MAX) = BAD
            order(0, 1) = BAD
            order(-1, 1) = BAD
            order(10, 1) = BAD
            order(MIN, 1) = BAD
            order(MAX, 1) = BAD
            order(1, 0) = BAD
            order(1, -1) = BAD
            order(1, 10) = BAD
            order(1, MIN) = BAD
            order(1, MAX) = BAD
            came(-1, 1) = BAD
            came(12, 1) = BAD
            came(MIN, 1) = BAD
            came(MAX, 1) = BAD
            came(0, -1) = BAD
            came(0, 21) = BAD
            came(0, MIN) = BAD
            came(0, MAX) = BAD
            dots(-1) = BAD
            dots(48) = BAD
            dots(MIN) = BAD
            dots(MAX) = BAD
            judge(-1, 0) = BAD
            judge(4, 0) = BAD
            judge(MIN, 0) = BAD
            judge(MAX, 0) = BAD
            judge(0, -1) = BAD
            judge(0, 2) = BAD
            judge(0, MIN) = BAD
            judge(0, MAX) = BAD
            left(-1) = BAD
            left(2) = BAD
            left(MIN) = BAD
            left(MAX) = BAD
            odds(1, 0, 1, 0) = NO
            odds(1, -1, 1, 0) = NO
            odds(1, 21, 1, 0) = NO
            odds(1, MIN, 1, 0) = NO
            odds(1, MAX, 1, 0) = NO
            odds(1, 5, -1, 0) = NO
            odds(1, 5, 13, 0) = NO
            odds(1, 5, MIN, 0) = NO
            odds(1, 5, MAX, 0) = NO
            odds(1, 5, 1, -1) = NO
            odds(1, 5, 1, 2) = NO
            odds(1, 5, 1, MIN) = NO
            odds(1, 5, 1, MAX) = NO
            count(-1) = BAD
            count(9) = BAD
            count(MIN) = BAD
            count(MAX) = BAD
            sheet(-1, 0, 1) = BAD
            sheet(4, 0, 1) = BAD
            sheet(MIN, 0, 1) = BAD
            sheet(MAX, 0, 1) = BAD
            sheet(-1, -1, 1) = BAD
            sheet(4, -1, 1) = BAD
            sheet(0, -2, 1) = BAD
            sheet(0, 3, 1) = BAD
            sheet(0, MIN, 1) = BAD
            sheet(0, MAX, 1) = BAD
            sheet(0, 0, 41) = BAD
            sheet(1, 1, 41) = BAD
            sheet(3, 2, 41) = BAD
            sheet(0, 0, MAX) = BAD
            sheet(0, 0, -1) = -14
            sheet(1, 1, -1) = -14
            sheet(3, 2, -1) = -14
            sheet(0, 0, MIN) = -14
            sheet(4, 0, -1) = BAD
            sheet(-1, 0, -1) = BAD
            sheet(0, 3, -1) = BAD
            sheet(0, -2, -1) = BAD
            cell(-1, 0, 1) = BAD
            cell(4, 0, 1) = BAD
            cell(MIN, 0, 1) = BAD
            cell(MAX, 0, 1) = BAD
            cell(4, -1, 1) = BAD
            copy(-1, 0, 0, 0, 1) = BAD
            copy(4, 0, 0, 0, 1) = BAD
            copy(MIN, 0, 0, 0, 1) = BAD
            copy(MAX, 0, 0, 0, 1) = BAD
            copy(0, 0, -1, 0, 1) = BAD
            copy(0, 0, 4, 0, 1) = BAD
            copy(0, 0, MIN, 0, 1) = BAD
            copy(0, 0, MAX, 0, 1) = BAD
            copy(0, -1, 4, -1, -1) = BAD
            finds(-1, 0, 0, 1) = BAD
            finds(4, 0, 0, 1) = BAD
            finds(MIN, 0, 0, 1) = BAD
            finds(MAX, 0, 0, 1) = BAD
            finds(0, -1, 0, 1) = BAD
            finds(0, 3, 0, 1) = BAD
            finds(0, MIN, 0, 1) = BAD
            finds(0, MAX, 0, 1) = BAD
            finds(0, 0, 0, -1) = BAD
            finds(0, 0, 0, 13) = BAD
            finds(0, 0, 0, MIN) = BAD
            finds(0, 0, 0, MAX) = BAD
            finds(2, 1, -1, 13) = BAD
            taken(0, -1) = BAD
            taken(0, 6) = BAD
            taken(0, MIN) = BAD
            taken(0, MAX) = BAD
            taken(12, -1) = BAD         # BAD ahead of -11
            taken(12, 6) = BAD
            taken(-1, 0) = -11
            taken(12, 0) = -11
            taken(32, 0) = -11
            taken(MIN, 5) = -11
            taken(MAX, 5) = -11
            """;

    /** Of a new object: no FIND, no TEXT but 0, no IMAGE, no SHEET, an empty tape. */
    private static final String OF_NEW = """
            set(2, 0, 1) = BAD
            set(3, 0, 1) = BAD
            set(4, 0, 1) = BAD
            told(0, 0) = BAD
            text() = -100
            force(1) = BAD
            beep(0) = NONE
            pot() = NONE
            came(0, 0) = BAD
            thick() = NONE
            judge(0, 0) = -11
            judge(3, 1) = -11
            judge(0, 2) = BAD           # BAD ahead of -11
            back() = STATE
            cell(0, 0, 1) = -11
            cell(0, -1, 1) = -11        # -11 ahead of -12
            cell(3, 40, 1) = -11
            copy(0, 0, 1, 0, 0) = -11
            copy(2, 0, 2, 0, 0) = -11
            copy(0, -1, 1, -1, -1) = -11
            finds(0, 0, 0, 0) = -11
            finds(0, 1, 0, 1) = -11
            finds(0, 2, -1, 12) = -11
            taken(0, 0) = -11
            """;

    /** Of some of everything: FINDS 0 to 3 are TAKEN there, SHEET 2 is missing. */
    private static final String OF_SOME = """
            set(2, 0, 5) = STATE
            set(3, 0, 5) = STATE
            set(4, 0, 5) = STATE
            set(2, 3, 0) = STATE
            set(3, 3, 0) = STATE
            set(4, 3, 1) = STATE
            set(2, 0, 48) = BAD         # BAD ahead of STATE
            set(3, 0, 21) = BAD
            set(4, 0, 0) = BAD
            set(2, 7, 1) = BAD
            set(3, 7, 1) = BAD
            set(4, 7, 1) = BAD
            told(7, 0) = BAD
            told(7, 10) = BAD
            force(3) = BAD
            came(7, 0) = BAD
            cell(0, -1, 9) = -12
            cell(0, 7, 9) = -12
            cell(0, MIN, 9) = -12
            cell(0, MAX, 9) = -12
            cell(1, 12, 9) = -12
            cell(3, 3, 9) = -12
            cell(2, 0, 9) = -11
            judge(2, 0) = -11
            copy(0, 0, 2, 0, 1) = -11
            copy(2, 0, 0, 0, 1) = -11
            copy(2, 0, 1, -1, -1) = -11   # -11 ahead of -12
            copy(0, 0, 1, 0, 1) = -13
            copy(1, 0, 0, 0, 0) = -13
            copy(0, -1, 1, 99, -1) = -13  # -13 ahead of -12
            copy(1, 0, 3, 0, 4) = -12
            copy(3, 0, 1, 0, 4) = -12
            copy(1, 0, 3, 0, -1) = -12
            copy(1, 0, 3, 0, MIN) = -12
            copy(1, 0, 3, 0, MAX) = -12
            copy(1, -1, 3, 0, 1) = -12
            copy(1, 0, 3, -1, 1) = -12
            copy(1, 12, 3, 0, 1) = -12
            copy(1, 0, 3, 3, 1) = -12
            copy(1, 13, 3, 0, 0) = -12
            copy(1, 0, 3, 4, 0) = -12
            copy(1, 10, 3, 0, 3) = -12
            copy(1, 0, 3, 1, 3) = -12
            copy(1, 1, 3, 1, MAX) = -12
            copy(1, MAX, 3, 0, 1) = -12
            copy(1, 0, 3, MAX, MAX) = -12
            copy(1, MIN, 3, MIN, MIN) = -12
            finds(0, 1, 0, 1) = -13
            finds(0, 2, 0, 0) = -13
            finds(1, 0, -1, 12) = -13     # -13 ahead of -12
            finds(2, 2, 0, 1) = -11
            finds(0, 0, 5, 1) = -12       # the first one stands outside already
            finds(0, 0, 7, 1) = -12
            finds(0, 0, -1, 2) = -12
            finds(0, 0, MIN, 12) = -12
            finds(0, 0, MAX, 12) = -12
            finds(1, 2, 10, 1) = -12
            finds(1, 2, 3, 1) = 0         # a KIND 6, which is left out
            taken(7, 0) = -11
            taken(2, 1) = -13
            taken(1, 1) = -13
            taken(0, 3) = -13
            taken(0, 5) = -13
            taken(5, 5) = -13
            taken(4, 3) = -13
            taken(3, 2) = -13
            """;

    private static final String OF_FULL = """
            find(0, 0, 11) = FULL
            find(0, 0, 10) = BAD          # BAD ahead of FULL
            text() = FULL
            set(2, 5, 1) = STATE
            cell(0, 40, 1) = -12
            cell(3, 40, 1) = -12
            copy(0, 0, 1, 0, 41) = -12
            copy(0, 40, 1, 40, 1) = -12
            copy(0, 1, 1, 0, 40) = -12
            copy(0, 0, 2, 0, 40) = -13
            finds(0, 0, 38, 1) = -12
            finds(0, 0, 37, 1) = 0
            finds(0, 0, 4, 12) = 0
            finds(0, 0, 5, 12) = -12      # none of those ahead had room, nor was one
            taken(0, 5) = -13
            """;

    private static final String OF_LONG = """
            feed(0) = FULL
            feed(32) = FULL
            feed(255) = FULL
            feed(256) = BAD               # BAD ahead of FULL
            feed(-1) = BAD
            told(2, 0) = BAD
            force(1) = BAD
            back() = STATE
            """;

    private static final String OF_LATE = """
            told(4, 0) = BAD
            taken(4, 0) = -11
            taken(2, 4) = -13
            """;

    /** Calls that ask, and change nothing whatever they answer. */
    private static final String ASKING = """
            told(0, 9)
            told(1, 7)
            beep(3)
            beep(17)
            found(63, 0)
            found(63, 1)
            found(5, 1)
            years(20)
            soonest(0)
            soonest(1)
            strips(3, 0)
            strips(6, 1)
            better()
            order(9, 1)
            order(1, 9)
            pot()
            came(0, 20)
            came(1, 3)
            dots(3)
            thick()
            judge(0, 0)
            judge(0, 1)
            unseen()
            left(0)
            left(1)
            drawn(1)
            drawn(MIN)
            odds(MAX, 20, 1, 0)
            odds(-1, 20, 1, 1)
            count(0)
            copy(0, 0, 0, 0, 7)
            finds(0, 0, 0, 0)
            taken(0, 0)
            set(0, 0, 10)
            """;

    /** Calls each of which changes one thing. */
    private static final String CHANGES = """
            find(2, 7, 11)
            set(0, 0, 5)
            set(1, 0, 5)
            set(2, 5, 26)
            set(2, 4, 20)
            set(3, 5, 14)
            set(4, 6, 8)
            feed(42)
            text()
            force(0)
            force(1)
            walk(2)
            walk(5)
            plough()
            image()
            back()
            sheet(0, 0, 8)
            sheet(0, 1, 7)
            sheet(1, -1, 0)
            sheet(2, 0, 0)
            sheet(3, 2, 2)
            cell(0, 0, 4)
            cell(0, 1, 41)
            cell(0, 5, 13)
            cell(1, 11, 76)
            copy(1, 0, 3, 0, 3)
            copy(1, 3, 1, 4, 1)
            copy(1, 8, 1, 2, 1)
            finds(0, 0, 0, 1)
            """;

    public static void main(String[] args) {
        refused("of a new object", NEW, ALWAYS + OF_NEW);
        refused("of some of everything", SOME + TAPE, ALWAYS + OF_SOME);
        refused("of a full field, full texts", FULL, ALWAYS + OF_FULL);
        refused("of a full tape", LONG, ALWAYS + OF_LONG);
        refused("of the last YEAR", LATE, ALWAYS + OF_LATE);
        asked("of a new object", NEW);
        asked("of some of everything", SOME + TAPE);
        asked("of a full field, full texts", FULL);
        asked("of the last YEAR", LATE);
        changes();
        emptiedTapes();
        findsAheadOfAnEnd();
        c.end();
    }

    /** The answer is as due, and all is as if the call had not been made. */
    private static void refused(String what, String state, String rows) {
        List<Call> ahead = Call.all(state);
        Asked want = Asked.after(ahead);
        for (Call row : Call.all(rows)) {
            c.run(what, state + "\n" + row.line);
            Asked.after(with(ahead, row)).dueAs(c, what + ": " + row.line, want);
        }
    }

    private static void asked(String what, String state) {
        List<Call> ahead = Call.all(state);
        Asked want = Asked.after(ahead);
        for (Call row : Call.all(ASKING)) {
            Asked.after(with(ahead, row)).dueAs(c, what + ": " + row.line, want);
        }
    }

    private static List<Call> with(List<Call> ahead, Call last) {
        List<Call> all = new ArrayList<>(ahead);
        all.add(last);
        return all;
    }

    /** What is asked shows each thing that may change: else nothing above would say much. */
    private static void changes() {
        List<Call> ahead = Call.all(SOME + TAPE);
        Asked want = Asked.after(ahead);
        for (Call row : Call.all(CHANGES)) {
            c.isTrue(row.line + " shows", !Asked.after(with(ahead, row)).isAs(want));
        }
    }

    /** "THE TAPE, which is empty then (by a FAULT, too)": and nothing else is otherwise. */
    private static void emptiedTapes() {
        String[] faults = {"digs", "digs 1;hears 2;worth 12345;", "digs 1;hears 2;worth 3;;", "digs ((((((", "?",
            "digs 1 + 2 + 3 ; hears 4 or 5 ; worth not not 6 ; 7", "   "};
        int[] places = {4, 21, 23, 10, 0, 50, 3};
        for (int i = 0; i < faults.length; i++) {
            String read = "read(" + faults[i] + ") = " + (-100 - places[i]);
            refused("the tape of a new object", NEW, read);
            refused("the tape, ahead of some of everything", SOME, read);
        }
    }

    /** "-12: what stood ahead came": all is as if just these had been asked for. */
    private static void findsAheadOfAnEnd() {
        int[][] rows = {{0, 0, 0, 3, 2}, {0, 0, 1, 12, 2}, {0, 0, 3, 2, 1}, {1, 2, 0, 5, 4}, {1, 2, 1, 12, 3},
            {1, 2, 6, 3, 2}, {1, 2, 9, 2, 1}, {3, 2, 0, 2, 1}};
        for (int[] r : rows) {
            String form = "finds(" + r[0] + ", " + r[1] + ", " + r[2] + ", ";
            List<Call> ahead = Call.all(SOME);
            Call outside = Call.of(form + r[3] + ") = -12");
            c.run("finds from a row's end", SOME + outside.line);
            Asked want = Asked.after(with(ahead, Call.of(form + r[4] + ")")));
            Asked.after(with(ahead, outside)).dueAs(c, outside.line, want);
        }
    }
}
