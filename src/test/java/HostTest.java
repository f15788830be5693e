/** Promises 29 to 33: sheet, cell, copy, finds, taken. */
public final class HostTest {
    private static final int BAD = FieldBeeps.BAD;
    private static final int MAX = Integer.MAX_VALUE;
    private static final int MIN = Integer.MIN_VALUE;
    private static final Checks c = new Checks();

    public static void main(String[] args) {
        sheets();
        cells();
        cutItems();
        copies();
        refusedCopies();
        findsBySheets();
        findsOfSorts();
        findsWhenFull();
        refusedFinds();
        taken();
        c.end();
    }

    private static void sheets() {
        FieldBeeps x = new FieldBeeps();
        int[][] due = {{-1, 0, 1, BAD}, {4, 0, 1, BAD}, {0, -2, 1, BAD}, {0, 3, 1, BAD}, {0, 0, 41, BAD},
            {0, 0, MAX, BAD}, {0, 0, -1, -14}, {0, 2, MIN, -14}, {4, 0, -1, BAD}, {0, 3, -1, BAD}, {0, 0, 40, 1},
            {1, 1, 0, 1}, {3, 2, 1, 1}, {0, -1, 41, 1}, {1, -1, -1, 1}, {3, -1, 0, 1}, {2, -1, 5, 1}};
        for (int[] d : due) {
            c.due("sheet(" + d[0] + ", " + d[1] + ", " + d[2] + ")", x.sheet(d[0], d[1], d[2]), d[3]);
        }
        for (int sheet = 0; sheet < 4; sheet++) {
            c.due("missing again: " + sheet, x.cell(sheet, 0, 0), -11);
        }
        x.sheet(0, 0, 2);
        x.cell(0, 1, 9);
        x.sheet(0, 0, 41);
        x.sheet(0, 1, -1);
        c.due("a refused one changes nothing", x.judge(0, 1), 1);
        x.sheet(0, 0, 2);
        c.due("all 0", x.judge(0, 1), 0);
    }

    private static void cells() {
        FieldBeeps x = new FieldBeeps();
        c.due("cell(-1, 0, 0)", x.cell(-1, 0, 0), BAD);
        c.due("cell(4, 0, 0)", x.cell(4, 0, 0), BAD);
        c.due("-11 ahead of -12", x.cell(0, -1, 0), -11);
        x.sheet(0, 0, 3);
        x.sheet(1, 0, 0);
        x.sheet(2, 2, 40);
        int[][] due = {{0, 0, 1}, {0, 2, 1}, {0, 3, -12}, {0, -1, -12}, {0, MAX, -12}, {0, MIN, -12}, {1, 0, -12},
            {2, 39, 1}, {2, 40, -12}};
        for (int[] d : due) {
            c.due("cell(" + d[0] + ", " + d[1] + ", 0)", x.cell(d[0], d[1], 0), d[2]);
        }
        x.cell(0, 2, 1);
        x.cell(0, 3, 1);
        c.due("nothing goes beyond its sheet", x.judge(1, 1) + x.judge(2, 1), 0);
        c.due("item 2 alone", x.judge(0, 0), 2);
        c.due("item 2 alone", x.judge(0, 1), 1);
    }

    /** Whether item v of a sort is kept as this KIND of a FIND; below 0: as none. */
    private static void cutItem(int sort, int v, int kind) {
        FieldBeeps x = new FieldBeeps();
        x.sheet(0, sort, 3);
        x.cell(0, 0, v);
        x.cell(0, 1, 1);
        x.cell(0, 2, 11);
        int came = x.finds(0, sort, 0, 1);
        c.due("sort " + sort + ", " + v + " came", came, kind >= 0 ? 1 : 0);
        if (kind >= 0) {
            c.due("sort " + sort + ", " + v, x.told(0, 0), kind);
        }
    }

    private static void cutItems() {
        cutItem(0, 256 + 3, 3);
        cutItem(0, -256 + 3, 3);
        cutItem(0, 255, -1);
        cutItem(0, 0x70000002, 2);
        cutItem(1, 256 + 3, -1);
        cutItem(1, 65536 + 4, 4);
        cutItem(1, -65536 + 4, 4);
        cutItem(1, 65535, -1);
        cutItem(2, 65536 + 4, -1);
        cutItem(2, 256 + 4, -1);
        cutItem(2, 5, 5);
    }

    private static void copies() {
        FieldBeeps x = numbered(2, 1, 2, 3, 4, 5);
        c.due("copy(0, 0, 0, 1, 4)", x.copy(0, 0, 0, 1, 4), 4);
        isRow("as they were, upward", x, 0, 1, 1, 2, 3, 4);
        x = numbered(1, 1, 2, 3, 4, 5);
        c.due("copy(0, 2, 0, 0, 3)", x.copy(0, 2, 0, 0, 3), 3);
        isRow("as they were, downward", x, 0, 3, 4, 5, 4, 5);
        x = numbered(0, 1, 2, 3);
        x.sheet(3, 0, 5);
        c.due("copy(0, 1, 3, 3, 2)", x.copy(0, 1, 3, 3, 2), 2);
        isRow("to another one", x, 3, 0, 0, 0, 2, 3);
        isRow("which stays", x, 0, 1, 2, 3);
        c.due("none", x.copy(0, 3, 3, 5, 0), 0);
        c.due("none, from 0 on", x.copy(0, 0, 3, 0, 0), 0);
        c.due("all", x.copy(0, 0, 0, 0, 3), 3);
        isRow("nothing else", x, 0, 1, 2, 3);
    }

    private static void refusedCopies() {
        FieldBeeps x = numbered(0, 1, 2, 3);
        x.sheet(1, 1, 3);
        x.sheet(2, 0, 4);
        int[][] due = {{-1, 0, 0, 0, 1, BAD}, {4, 0, 0, 0, 1, BAD}, {0, 0, -1, 0, 1, BAD}, {0, 0, 4, 0, 1, BAD},
            {3, 0, 4, 0, 1, BAD}, {3, 0, 0, 0, 1, -11}, {0, 0, 3, 0, 1, -11}, {3, 9, 3, 9, -1, -11},
            {0, 0, 1, 0, 1, -13}, {1, 9, 0, 9, -1, -13}, {0, 0, 2, 0, -1, -12}, {0, -1, 2, 0, 1, -12},
            {0, 0, 2, -1, 1, -12}, {0, 0, 2, 0, 4, -12}, {0, 1, 2, 0, 3, -12}, {2, 0, 0, 0, 4, -12},
            {0, 4, 2, 0, 0, -12}, {0, 0, 2, 5, 0, -12}, {0, 0, 2, 4, 1, -12}, {0, MAX, 2, 0, MAX, -12},
            {0, 1, 2, 1, MAX, -12}, {0, MIN, 2, 0, MIN, -12}, {0, 0, 2, MAX, 1, -12}, {0, 1, 2, 0, MIN, -12}};
        for (int[] d : due) {
            c.due("copy(" + d[0] + ", " + d[1] + ", " + d[2] + ", " + d[3] + ", " + d[4] + ")",
                    x.copy(d[0], d[1], d[2], d[3], d[4]), d[5]);
        }
        isRow("refused ones change nothing", x, 0, 1, 2, 3);
        isRow("nor here", x, 2, 0, 0, 0, 0);
    }

    /** A new object whose SHEET 0 has these items. */
    private static FieldBeeps numbered(int sort, int... items) {
        FieldBeeps x = new FieldBeeps();
        x.sheet(0, sort, items.length);
        for (int i = 0; i < items.length; i++) {
            x.cell(0, i, items[i]);
        }
        return x;
    }

    /** By SLIPS, as no call tells an item: one less if a CELL has as many dots as its item says. */
    private static void isRow(String what, FieldBeeps x, int sheet, int... items) {
        x.force(Checks.read(x, "digs 1;hears 0;worth 1;"));
        x.image();
        int slips = 0;
        for (int item : items) {
            slips += item == 0 ? 0 : 1;
        }
        c.due(what, x.judge(sheet, 1), slips);
        for (int i = 0; i < items.length; i++) {
            for (int n = 0; n < items[i]; n++) {
                x.find(0, i, 15);
            }
            x.walk(0);
            c.due(what + ", item " + i, x.judge(sheet, 1), items[i] == 0 ? slips : slips - 1);
            x.back();
        }
    }

    private static void findsBySheets() {
        FieldBeeps x = numbered(2, 9, 0, 5, 11, 6, 0, 11, 5, 47, 209, 1, 2);
        c.due("finds(0, 2, 1, 0)", x.finds(0, 2, 1, 0), 0);
        c.due("finds(0, 2, 1, 3): one is left out", x.finds(0, 2, 1, 3), 2);
        c.due("count(0)", x.count(0), 2);
        int[][] due = {{0, 5, 1, 1}, {5, 47, 20, 9}};
        for (int f = 0; f < 2; f++) {
            for (int what = 0; what < 4; what++) {
                c.due("told(" + f + ", " + what + ")", x.told(f, what), due[f][what]);
            }
        }
        c.due("the fourth is cut off", x.finds(0, 2, 1, 4), -12);
        c.due("what stood ahead came", x.count(0), 4);
        c.due("from the last on", x.finds(0, 2, 12, 0), 0);
        c.due("from below 0 on, none of them", x.finds(0, 2, -1, 0), 0);
        c.due("from below 0 on", x.finds(0, 2, -1, 1), -12);
        c.due("from MAX on", x.finds(0, 2, MAX, 12), -12);
        c.due("from MIN on", x.finds(0, 2, MIN, 12), -12);
        c.due("from -3 on", x.finds(0, 2, -3, 2), -12);
        c.due("from 10 on", x.finds(0, 2, 10, 1), -12);
        c.due("none came by these", x.count(0), 4);
        c.due("from 9 on, left out", x.finds(0, 2, 9, 1), 0);
    }

    private static void findsOfSorts() {
        for (int sort = 0; sort < 3; sort++) {
            FieldBeeps x = numbered(sort, 3, 20, 111);
            c.due("of sort " + sort, x.finds(0, sort, 0, 1), 1);
            c.due("DEPTH", x.told(0, 2), 11);
        }
        FieldBeeps x = numbered(0, 3, 20, 209);
        c.due("a byte is below 0 from 128 on, as Java's", x.finds(0, 0, 0, 1), 0);
        x = numbered(1, 3, 20, 209);
        c.due("a short isn't", x.finds(0, 1, 0, 1), 1);
    }

    private static void findsWhenFull() {
        FieldBeeps x = numbered(2, 0, 0, 11, 1, 1, 11, 2, 2, 11);
        for (int i = 0; i < 10; i++) {
            x.find(0, 0, 11);
        }
        c.due("two have room", x.finds(0, 2, 0, 3), 2);
        c.due("count(0)", x.count(0), 12);
        c.due("none has", x.finds(0, 2, 0, 3), 0);
        c.due("-12 all the same", x.finds(0, 2, 0, 4), -12);
    }

    private static void refusedFinds() {
        FieldBeeps x = numbered(1, 0, 0, 11);
        int[][] due = {{-1, 1, 0, 1, BAD}, {4, 1, 0, 1, BAD}, {0, -1, 0, 1, BAD}, {0, 3, 0, 1, BAD},
            {0, 1, 0, -1, BAD}, {0, 1, 0, 13, BAD}, {0, 0, 0, 1, -13}, {0, 2, 0, 0, -13}, {0, 2, 9, 1, -13},
            {1, 1, 0, 1, -11}, {1, 1, 9, 0, -11}, {1, 1, 0, 13, BAD}, {0, 1, 1, 1, -12}, {0, 1, 3, 1, -12}};
        for (int[] d : due) {
            c.due("finds(" + d[0] + ", " + d[1] + ", " + d[2] + ", " + d[3] + ")",
                    x.finds(d[0], d[1], d[2], d[3]), d[4]);
        }
        c.due("none came", x.count(0), 0);
    }

    private static void taken() {
        FieldBeeps x = new FieldBeeps();
        boolean[][] under = {{true, false, false, false, false, false}, {true, true, false, false, false, false},
            {true, false, true, false, false, false}, {true, true, false, true, false, false},
            {true, false, false, false, true, false}, {true, true, false, false, false, true}};
        for (int kind = 0; kind < 6; kind++) {
            x.find(kind, 0, 14 + kind);
        }
        for (int kind = 0; kind < 6; kind++) {
            for (int k = 0; k < 6; k++) {
                c.due("taken(" + kind + ", " + k + ")", x.taken(kind, k), under[kind][k] ? 4 + kind : -13);
            }
        }
        c.due("taken(0, -1)", x.taken(0, -1), BAD);
        c.due("taken(0, 6)", x.taken(0, 6), BAD);
        c.due("BAD ahead of -11", x.taken(9, 6), BAD);
        c.due("taken(6, 0)", x.taken(6, 0), -11);
        c.due("taken(-1, 5)", x.taken(-1, 5), -11);
        c.due("taken(MAX, 5)", x.taken(MAX, 5), -11);
        x = Checks.ruled("digs 1;hears 0;worth 1;");
        x.find(3, 0, 15);
        x.walk(0);
        c.due("of a FIND that is TAKEN", x.taken(0, 1), 5);
    }
}
