/** Promises 1 to 4: a new object, find, set, told. */
public final class FieldTest {
    private static final int BAD = FieldBeeps.BAD;
    private static final int STATE = FieldBeeps.STATE;
    private static final int FULL = FieldBeeps.FULL;
    private static final Checks c = new Checks();

    public static void main(String[] args) {
        newObject();
        finds();
        fullField();
        sets();
        refusedSets();
        takenIsNotSet();
        tones();
        louds();
        drags();
        heard();
        toldOfTaken();
        wrongTold();
        c.end();
    }

    private static void newObject() {
        FieldBeeps x = new FieldBeeps();
        int[] counts = {0, 0, 0, 3, 0, 0, 1, 0, 0};
        for (int what = 0; what < counts.length; what++) {
            c.due("new: count(" + what + ")", x.count(what), counts[what]);
        }
        c.due("new: told(0, 0)", x.told(0, 0), BAD);
        c.due("new: back()", x.back(), STATE);
        c.due("new: thick()", x.thick(), -1);
        c.due("new: pot()", x.pot(), -1);
        for (int sheet = 0; sheet < 4; sheet++) {
            c.due("new: cell(" + sheet + ", 0, 0)", x.cell(sheet, 0, 0), -11);
        }
        x.find(0, 0, 11);
        c.due("objects share nothing", new FieldBeeps().count(0), 0);
    }

    private static void finds() {
        FieldBeeps x = new FieldBeeps();
        c.due("find(0, 0, 1)", x.find(0, 0, 1), 0);
        c.due("find(5, 47, 209)", x.find(5, 47, 209), 1);
        int[] told = {5, 47, 20, 9, 0};
        for (int what = 0; what < told.length; what++) {
            c.due("told(1, " + what + ")", x.told(1, what), told[what]);
        }
        int[][] wrong = {{-1, 0, 11}, {6, 0, 11}, {0, -1, 11}, {0, 48, 11}, {0, 0, 0}, {0, 0, 10}, {0, 0, 200},
            {0, 0, 210}, {0, 0, 211}, {0, 0, -1}, {0, 0, -11}, {0, 0, Integer.MAX_VALUE},
            {0, 0, Integer.MIN_VALUE}, {Integer.MIN_VALUE, 0, 11}, {0, Integer.MAX_VALUE, 11}};
        for (int[] w : wrong) {
            c.due("find(" + w[0] + ", " + w[1] + ", " + w[2] + ")", x.find(w[0], w[1], w[2]), BAD);
        }
        c.due("wrong ones don't come", x.count(0), 2);
    }

    private static void fullField() {
        FieldBeeps x = new FieldBeeps();
        for (int i = 0; i < 12; i++) {
            c.due("find " + i, x.find(i % 6, i, 15), i);
        }
        c.due("the 13th", x.find(0, 0, 11), FULL);
        c.due("BAD ahead of FULL", x.find(0, 48, 11), BAD);
        c.due("count(0)", x.count(0), 12);
    }

    private static void sets() {
        FieldBeeps x = new FieldBeeps();
        x.find(1, 5, 53);
        x.find(2, 6, 64);
        c.due("set(0, -9, 9)", x.set(0, -9, 9), 0);
        c.due("set(0, 99, 0)", x.set(0, 99, 0), 9);
        c.due("set(1, -9, 9)", x.set(1, -9, 9), 3);
        c.due("set(1, 99, 1)", x.set(1, 99, 1), 9);
        c.due("count(2)", x.count(2), 0);
        c.due("count(3)", x.count(3), 1);
        c.due("set(2, 1, 47)", x.set(2, 1, 47), 6);
        c.due("set(2, 1, 0)", x.set(2, 1, 0), 47);
        c.due("set(3, 1, 20)", x.set(3, 1, 20), 6);
        c.due("set(3, 1, 0)", x.set(3, 1, 0), 20);
        c.due("set(4, 1, 9)", x.set(4, 1, 9), 4);
        c.due("set(4, 1, 1)", x.set(4, 1, 1), 9);
        int[] told = {2, 0, 0, 1};
        int[] other = {1, 5, 5, 3};
        for (int what = 0; what < 4; what++) {
            c.due("told(1, " + what + ")", x.told(1, what), told[what]);
            c.due("the other one stays: told(0, " + what + ")", x.told(0, what), other[what]);
        }
    }

    private static void refusedSets() {
        FieldBeeps x = new FieldBeeps();
        x.find(4, 9, 32);
        int[][] wrong = {{-1, 0, 1}, {5, 0, 1}, {0, 0, -1}, {0, 0, 10}, {1, 0, 0}, {1, 0, 10}, {2, 0, -1},
            {2, 0, 48}, {3, 0, -1}, {3, 0, 21}, {4, 0, 0}, {4, 0, 10}, {2, -1, 1}, {2, 1, 1}, {3, 1, 1},
            {4, 12, 1}, {4, Integer.MIN_VALUE, 1}, {4, Integer.MAX_VALUE, 1}, {2, 0, Integer.MAX_VALUE}};
        for (int[] w : wrong) {
            c.due("set(" + w[0] + ", " + w[1] + ", " + w[2] + ")", x.set(w[0], w[1], w[2]), BAD);
        }
        int[] told = {4, 9, 3, 2};
        for (int what = 0; what < told.length; what++) {
            c.due("refused sets change nothing: " + what, x.told(0, what), told[what]);
        }
        c.due("nor WET", x.count(2), 0);
        c.due("nor PLATE", x.count(3), 3);
    }

    private static void takenIsNotSet() {
        FieldBeeps x = new FieldBeeps();
        x.find(1, 5, 15);
        c.due("walk(0)", x.walk(0), 1);
        c.due("CELL of a TAKEN one", x.set(2, 0, 6), STATE);
        c.due("DEPTH of a TAKEN one", x.set(3, 0, 6), STATE);
        c.due("SIZE of a TAKEN one", x.set(4, 0, 6), STATE);
        c.due("BAD ahead of STATE", x.set(4, 0, 0), BAD);
        c.due("WET still", x.set(0, 0, 1), 0);
        c.due("told(0, 1)", x.told(0, 1), 5);
        c.due("told(0, 2)", x.told(0, 2), 1);
        c.due("told(0, 3)", x.told(0, 3), 5);
    }

    private static void tones() {
        int[][] due = {{11, 14, 15, 19}, {61, 64, 65, 69}, {5, 7, 7, 9}, {60, 60, 60, 60}, {41, 44, 45, 49},
            {61, 64, 74, 78}};
        int[] sizes = {1, 4, 5, 9};
        for (int kind = 0; kind < 6; kind++) {
            for (int i = 0; i < sizes.length; i++) {
                FieldBeeps x = new FieldBeeps();
                x.find(kind, 0, 200 + sizes[i]);
                c.due("TONE of " + kind + ", " + sizes[i], x.told(0, 5), due[kind][i]);
            }
        }
    }

    /** Each row: SIZE, DEPTH, PLATE, WET, then LOUD of the six KINDS. */
    private static void louds() {
        int[][] rows = {
            {3, 2, 7, 4, 61, 69, 41, 34, 61, 138},
            {1, 5, 3, 0, 0, 3, 0, 1, 0, 6},
            {1, 5, 3, 9, 13, 21, 0, 10, 13, 42},
            {1, 20, 1, 0, 0, 0, 0, 0, 0, 0},
            {9, 0, 9, 9, 153, 161, 108, 80, 153, 322},
            {2, 4, 1, 0, 1, 9, 1, 4, 1, 18},
        };
        for (int[] r : rows) {
            for (int kind = 0; kind < 6; kind++) {
                FieldBeeps x = new FieldBeeps();
                x.find(kind, 0, 10 * r[1] + r[0]);
                x.set(1, 0, r[2]);
                x.set(0, 0, r[3]);
                c.due("LOUD of " + kind + ", " + r[0] + " at " + r[1], x.told(0, 6), r[4 + kind]);
                c.due("HEARD of " + kind + ", alone", x.told(0, 7), r[4 + kind]);
            }
        }
    }

    private static void drags() {
        int[][] rows = {{4, 9, 1, 1, 0, 2, 1, 1}, {5, 9, 1, 1, 0, 2, 0, 1}, {4, 10, 1, 1, 0, 2, 1, 0},
            {9, 20, 1, 1, 0, 2, 0, 0}, {1, 0, 1, 1, 0, 2, 1, 1}};
        for (int[] r : rows) {
            for (int kind = 0; kind < 6; kind++) {
                FieldBeeps x = new FieldBeeps();
                x.find(kind, 0, 10 * r[1] + r[0]);
                c.due("DRAGS of " + kind + ", " + r[0] + " at " + r[1], x.told(0, 8), r[2 + kind]);
            }
        }
    }

    private static void heard() {
        FieldBeeps x = Checks.ruled("digs tone < 10; hears 0; worth loud;");
        x.find(0, 5, 14);
        x.find(2, 5, 11);
        x.find(2, 5, 205);
        x.find(2, 6, 15);
        x.find(4, 5, 14);
        c.due("two nails hide a FIND", x.told(0, 7), 29);
        c.due("LOUD by nails", x.told(0, 6), 49);
        c.due("a nail is hidden by the other alone", x.told(1, 7), 9);
        c.due("a deep nail hides, isn't heard", x.told(2, 7), 0);
        c.due("a nail of another cell", x.told(3, 7), 59);
        c.due("worth now is by LOUD", x.told(0, 9), 49);
        x.set(2, 1, 6);
        c.due("a nail less", x.told(0, 7), 39);
        c.due("a nail more", x.told(3, 7), 49);
        c.due("the nails of x 6 go", x.walk(0), 2);
        c.due("TAKEN nails hide nothing", x.told(0, 7), 39);
        x.set(2, 0, 6);
        c.due("TAKEN nails hide nothing there", x.told(0, 7), 49);
        c.due("LEAD hides nothing", x.told(4, 7), 39);
    }

    private static void toldOfTaken() {
        FieldBeeps x = Checks.ruled("digs 1; hears 0; worth loud + wet + plate + y + x;");
        x.find(1, 19, 14);
        c.due("worth", x.told(0, 9), 57 + 3 + 2 + 3);
        c.due("walk(2)", x.walk(2), 1);
        int[] told = {1, 19, 1, 4, 1, 64, 57, 0, 1, 65};
        for (int what = 0; what < told.length; what++) {
            c.due("of a TAKEN one: told(0, " + what + ")", x.told(0, what), told[what]);
        }
        x.set(1, 0, 4);
        c.due("LOUD now, though TAKEN", x.told(0, 6), 62);
    }

    private static void wrongTold() {
        FieldBeeps x = new FieldBeeps();
        x.find(0, 0, 11);
        c.due("told(0, -1)", x.told(0, -1), BAD);
        c.due("told(0, 10)", x.told(0, 10), BAD);
        c.due("told(-1, 0)", x.told(-1, 0), BAD);
        c.due("told(1, 0)", x.told(1, 0), BAD);
        c.due("told(12, 0)", x.told(12, 0), BAD);
        c.due("told(MAX, 0)", x.told(Integer.MAX_VALUE, 0), BAD);
    }
}
