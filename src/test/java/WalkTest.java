/** Promises 8 to 16: beep, walk, plough, found, years, soonest, strips, better, order. */
public final class WalkTest {
    private static final int BAD = FieldBeeps.BAD;
    private static final int NONE = FieldBeeps.NONE;
    private static final String ALL = "digs 1;hears 0;worth 1;";
    private static final Checks c = new Checks();

    public static void main(String[] args) {
        beeps();
        walks();
        depthsOfDigging();
        aBeepThatBlocks();
        ploughs();
        ploughEdges();
        lastYear();
        founds();
        worthAsHeard();
        years();
        soonest();
        strips();
        better();
        order();
        c.end();
    }

    private static void beeps() {
        FieldBeeps x = new FieldBeeps();
        c.due("beep(-1)", x.beep(-1), BAD);
        c.due("beep(48)", x.beep(48), BAD);
        c.due("beep of an empty cell", x.beep(47), NONE);
        x.find(0, 47, 14);
        c.due("beep(47)", x.beep(47), 0);
        c.due("beep(46)", x.beep(46), NONE);
        x.find(4, 47, 14);
        c.due("of like ones the first", x.beep(47), 0);
        x.find(4, 47, 15);
        c.due("the loudest", x.beep(47), 2);
        x.find(2, 47, 16);
        c.due("LOUD may be beaten by HEARD", x.beep(47), 3);
        x = new FieldBeeps();
        x.find(0, 0, 31);
        c.due("HEARD 7", x.told(0, 7), 7);
        c.due("is below hears", x.beep(0), NONE);
        x.set(4, 0, 2);
        x.set(3, 0, 4);
        c.due("HEARD 11", x.told(0, 7), 11);
        c.due("is above", x.beep(0), 0);
        x = Checks.ruled("digs 1;hears 11;worth 1;");
        x.find(0, 0, 42);
        c.due("as loud as hears", x.beep(0), 0);
        x.walk(0);
        c.due("TAKEN ones don't beep", x.beep(0), NONE);
        x = Checks.ruled("digs 1;hears 99 * (20 < tone);worth 1;");
        x.find(1, 3, 55);
        x.find(0, 3, 52);
        c.due("hears is of each FIND: the less loud one", x.beep(3), 1);
        x.set(3, 0, 0);
        x.set(4, 0, 9);
        c.due("and the loud one, if as loud", x.beep(3), 0);
    }

    private static void walks() {
        FieldBeeps x = new FieldBeeps();
        x.find(1, 8, 15);
        x.find(1, 15, 15);
        x.find(1, 15, 16);
        x.find(1, 16, 15);
        x.find(1, 7, 15);
        c.due("walk(-1)", x.walk(-1), BAD);
        c.due("walk(6)", x.walk(6), BAD);
        c.due("walk(32)", x.walk(32), BAD);
        c.due("nothing walked", x.count(5), 0);
        c.due("walk(1)", x.walk(1), 3);
        c.due("count(1)", x.count(1), 3);
        c.due("walked", x.count(5), 2);
        int[] taken = {1, 1, 1, 0, 0};
        for (int f = 0; f < taken.length; f++) {
            c.due("told(" + f + ", 4)", x.told(f, 4), taken[f]);
        }
        c.due("walk(1) again", x.walk(1), 0);
        c.due("walk(5)", x.walk(5), 0);
        c.due("walked", x.count(5), 34);
        c.due("walk(0)", x.walk(0), 1);
        c.due("walk(2)", x.walk(2), 1);
        c.due("walked", x.count(5), 39);
        c.due("THE YEAR stays", x.count(4), 0);
    }

    private static void depthsOfDigging() {
        FieldBeeps x = Checks.ruled(ALL);
        x.find(1, 0, 109);
        x.find(1, 1, 119);
        c.due("10 deep, 11 deep", x.found(1, 0), 1);
        x.walk(0);
        c.due("10 deep", x.told(0, 4), 1);
        c.due("11 deep", x.told(1, 4), 0);
        x.find(0, 1, 9);
        x.find(0, 2, 5);
        x.find(5, 2, 119);
        c.due("a deep one that is louder stops digging", x.walk(0), 1);
        c.due("only where it is loudest", x.told(2, 4), 1);
        c.due("there it isn't", x.told(3, 4), 0);
    }

    private static void aBeepThatBlocks() {
        FieldBeeps x = new FieldBeeps();
        x.find(0, 4, 19);
        x.find(1, 4, 15);
        c.due("a loud one for which one doesn't dig", x.walk(0), 0);
        x.set(4, 0, 5);
        c.due("less loud than the silver", x.walk(0), 1);
        x = Checks.ruled("digs loud < 30 or 50 < loud;hears 0;worth loud;");
        x.find(2, 4, 14);
        x.find(0, 4, 15);
        c.due("the nail beeps at 49, hidden is the other at 49", x.told(0, 7), 49);
        c.due("found", x.found(1, 0), 0);
        x.set(4, 0, 6);
        c.due("the nail at 69, then the other at 59", x.found(1, 0), 2);
        c.due("worth", x.found(1, 1), 69 + 59);
    }

    private static void ploughs() {
        FieldBeeps x = new FieldBeeps();
        for (int kind = 0; kind < 6; kind++) {
            x.find(kind, 8 * kind + 4, 94);
        }
        x.find(4, 12, 95);
        x.find(5, 12, 104);
        int[] first = {5, 13, 20, 30, 37, 45, 12, 12};
        int[] second = {4, 12, 20, 28, 36, 44, 12, 11};
        c.due("plough()", x.plough(), 1);
        for (int f = 0; f < first.length; f++) {
            c.due("dragged " + f, x.told(f, 1), first[f]);
            c.due("turned " + f, x.told(f, 2), f == 7 ? 2 : 3);
        }
        c.due("plough()", x.plough(), 2);
        for (int f = 0; f < second.length; f++) {
            c.due("dragged back " + f, x.told(f, 1), second[f]);
            c.due("turned back " + f, x.told(f, 2), f == 7 ? 10 : 9);
        }
        c.due("nothing is walked", x.count(5), 0);
    }

    private static void ploughEdges() {
        FieldBeeps x = new FieldBeeps();
        int[] depths = {0, 6, 12, 13, 20};
        int[] due = {12, 6, 0, 12, 19};
        for (int i = 0; i < depths.length; i++) {
            x.find(3, 15 - i, depths[i] * 10 + 4);
        }
        x.find(1, 23, 15);
        x.walk(2);
        x.plough();
        int[] cells = {15, 15, 15, 14, 13};
        for (int i = 0; i < depths.length; i++) {
            c.due("DEPTH " + depths[i], x.told(i, 2), due[i]);
            c.due("x of " + i + " is 7 at most", x.told(i, 1), cells[i]);
        }
        c.due("a TAKEN one isn't dragged", x.told(5, 1), 23);
        c.due("a TAKEN one isn't turned", x.told(5, 2), 1);
        x.set(2, 0, 9);
        x.set(2, 1, 8);
        x.plough();
        c.due("x is 0 at least", x.told(0, 1), 8);
        c.due("x is 0 at least", x.told(1, 1), 8);
    }

    private static void lastYear() {
        FieldBeeps x = new FieldBeeps();
        x.find(0, 3, 201);
        for (int i = 1; i <= 99; i++) {
            c.due("YEAR " + i, x.plough(), i);
        }
        int cell = x.told(0, 1);
        c.due("x in YEAR 99", cell, 4);
        c.due("99 at most", x.plough(), 99);
        c.due("99 is odd", x.told(0, 1), 3);
        c.due("99 at most", x.plough(), 99);
        c.due("99 is odd again", x.told(0, 1), 2);
        c.due("count(4)", x.count(4), 99);
    }

    private static void founds() {
        FieldBeeps x = new FieldBeeps();
        x.find(1, 0, 15);
        x.find(1, 9, 14);
        x.find(1, 47, 13);
        x.find(4, 40, 12);
        int[][] due = {{0, 0, 0}, {1, 1, 55}, {2, 1, 54}, {3, 2, 109}, {32, 2, 85}, {63, 4, 194}, {28, 0, 0}};
        for (int[] d : due) {
            c.due("found(" + d[0] + ", 0)", x.found(d[0], 0), d[1]);
            c.due("found(" + d[0] + ", 1)", x.found(d[0], 1), d[2]);
        }
        c.due("found(-1, 0)", x.found(-1, 0), BAD);
        c.due("found(64, 0)", x.found(64, 0), BAD);
        c.due("found(1, -1)", x.found(1, -1), BAD);
        c.due("found(1, 2)", x.found(1, 2), BAD);
        c.due("none is truly TAKEN", x.count(1), 0);
        c.due("none is truly WALKED", x.count(5), 0);
        x.walk(0);
        c.due("TAKEN ones aren't found", x.found(63, 0), 3);
    }

    private static void worthAsHeard() {
        FieldBeeps x = Checks.ruled("digs 1;hears 0;worth loud;");
        x.find(0, 0, 14);
        x.find(2, 0, 11);
        c.due("just ahead of being TAKEN a nail still hides it", x.found(1, 1), 39 + 19);
        x.set(4, 1, 4);
        c.due("a nail that is TAKEN first hides it no more", x.found(1, 1), 49 + 49);
        c.due("told is by LOUD", x.told(0, 9), 49);
    }

    private static void years() {
        FieldBeeps x = new FieldBeeps();
        c.due("years(-1)", x.years(-1), BAD);
        c.due("years(21)", x.years(21), BAD);
        x.find(1, 0, 119);
        x.find(1, 20, 209);
        x.find(1, 30, 5);
        int[] due = {0, 1, 2, 2, 2, 2, 2, 2, 2, 2, 3, 3};
        for (int n = 0; n < due.length; n++) {
            c.due("years(" + n + ")", x.years(n), due[n]);
        }
        c.due("years(20)", x.years(20), 3);
        c.due("none is truly TAKEN", x.count(1), 0);
        c.due("THE YEAR stays", x.count(4), 0);
        c.due("no STRIP is truly WALKED", x.count(5), 0);
        c.due("DEPTH stays", x.told(0, 2), 11);
        x = Checks.ruled("digs x = 4;hears 0;worth 1;");
        x.find(0, 3, 61);
        c.due("dragged to x 4 in YEAR 1", x.years(2), 1);
        x.plough();
        x.set(2, 0, 5);
        c.due("by an odd YEAR dragged down", x.years(2), 1);
        x.set(2, 0, 3);
        c.due("down, and then up", x.years(2), 0);
        c.due("down, up, down, up", x.years(20), 0);
    }

    private static void soonest() {
        FieldBeeps x = new FieldBeeps();
        c.due("soonest(-1)", x.soonest(-1), BAD);
        c.due("soonest(2)", x.soonest(2), BAD);
        x.find(1, 20, 209);
        c.due("when the deep one is up", x.soonest(0), 9);
        c.due("how many", x.soonest(1), 1);
        x.find(1, 21, 16);
        c.due("of like ones the least", x.soonest(0), 0);
        c.due("how many", x.soonest(1), 1);
        x.find(1, 22, 119);
        x.find(1, 23, 119);
        c.due("all but the flat one are up by 9", x.soonest(0), 9);
        c.due("how many", x.soonest(1), 3);
        x.set(3, 0, 19);
        c.due("two are up by 1, two by 8", x.soonest(0), 1);
        c.due("how many", x.soonest(1), 2);
        x.set(3, 0, 20);
        c.due("THE YEAR stays", x.count(4), 0);
        c.due("DEPTH stays", x.told(0, 2), 20);
        c.due("none is truly TAKEN", x.count(1), 0);
        x = Checks.ruled("digs x = 6;hears 0;worth 1;");
        x.find(5, 0, 199);
        c.due("a HOARD dragged up every other YEAR from 8 on", x.soonest(0), 20);
        c.due("how many", x.soonest(1), 1);
        x = Checks.ruled("digs y = 0 and x = 7;hears 0;worth 1;");
        x.find(5, 0, 69);
        c.due("never dragged so far", x.soonest(1), 0);
        c.due("then the least", x.soonest(0), 0);
    }

    private static void strips() {
        FieldBeeps x = new FieldBeeps();
        c.due("strips(-1, 0)", x.strips(-1, 0), BAD);
        c.due("strips(7, 0)", x.strips(7, 0), BAD);
        c.due("strips(1, -1)", x.strips(1, -1), BAD);
        c.due("strips(1, 2)", x.strips(1, 2), BAD);
        x.find(1, 40, 15);
        x.find(1, 16, 15);
        x.find(1, 32, 16);
        x.find(4, 8, 15);
        int[][] due = {{0, 0, 0}, {1, 16, 56}, {2, 20, 111}, {3, 52, 166}, {4, 54, 201}, {5, 55, 201}, {6, 63, 201}};
        for (int[] d : due) {
            c.due("strips(" + d[0] + ", 0)", x.strips(d[0], 0), d[1]);
            c.due("strips(" + d[0] + ", 1)", x.strips(d[0], 1), d[2]);
        }
        c.due("none is truly TAKEN", x.count(1), 0);
        c.due("none is truly WALKED", x.count(5), 0);
        x = Checks.ruled("digs 1;hears 0;worth 10 * (y = 3) + 1;");
        x.find(0, 0, 15);
        x.find(0, 0, 15);
        x.find(0, 24, 15);
        c.due("by worth, not by how many", x.strips(1, 0), 8);
    }

    private static void better() {
        FieldBeeps x = new FieldBeeps();
        x.find(4, 3, 53);
        x.find(4, 3, 52);
        x.find(4, 4, 52);
        x.find(4, 5, 45);
        c.due("HEARD 5", x.told(1, 7), 5);
        c.due("a better plate hears two more", x.better(), 2);
        c.due("PLATE stays", x.count(3), 3);
        c.due("none is truly TAKEN", x.count(1), 0);
        x.set(1, 0, 9);
        c.due("9 at most", x.better(), 0);
        x = Checks.ruled("digs plate < 4;hears 0;worth 1;");
        x.find(0, 0, 15);
        x.find(0, 1, 15);
        x.find(0, 2, 15);
        c.due("it may be worse", x.better(), -3);
        x.set(1, 0, 2);
        c.due("or as good", x.better(), 0);
        x = Checks.ruled("digs plate = 9;hears 0;worth 1;");
        x.find(0, 0, 15);
        x.set(1, 0, 8);
        c.due("from 8 to 9", x.better(), 1);
    }

    private static void order() {
        FieldBeeps x = Checks.ruled("digs plate = 1 and x = 0 or plate = 9;hears 0;worth 1;");
        x.find(0, 0, 15);
        x.find(0, 1, 15);
        x.find(0, 40, 15);
        x.find(0, 42, 15);
        x.find(0, 43, 15);
        int[][] due = {{1, 9, 3}, {9, 1, 0}, {1, 1, 0}, {9, 9, 0}, {2, 9, 5}, {2, 1, 2}, {0, 9, BAD}, {9, 0, BAD},
            {10, 1, BAD}, {1, 10, BAD}, {-1, 1, BAD}};
        for (int[] d : due) {
            c.due("order(" + d[0] + ", " + d[1] + ")", x.order(d[0], d[1]), d[2]);
        }
        c.due("PLATE stays", x.count(3), 3);
        c.due("none is truly TAKEN", x.count(1), 0);
    }
}
