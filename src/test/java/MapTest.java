/** Promises 17 to 28: pot, came, dots, thick, judge, unseen, left, drawn, odds, image, back, count. */
public final class MapTest {
    private static final int BAD = FieldBeeps.BAD;
    private static final int NONE = FieldBeeps.NONE;
    private static final String ALL = "digs 1;hears 0;worth 1;";
    private static final Checks c = new Checks();

    public static void main(String[] args) {
        pot();
        came();
        cameByYears();
        dots();
        judge();
        unseen();
        left();
        drawn();
        odds();
        image();
        imageOfTheRest();
        counts();
        c.end();
    }

    /** An object in which FINDS were TAKEN in these cells. */
    private static FieldBeeps taken(int... cells) {
        FieldBeeps x = Checks.ruled(ALL);
        for (int cell : cells) {
            x.find(0, cell, 15);
        }
        for (int y = 0; y < 6; y++) {
            x.walk(y);
        }
        return x;
    }

    private static void pot() {
        c.due("none TAKEN", new FieldBeeps().pot(), NONE);
        for (int cell = 0; cell < 48; cell++) {
            c.due("one: pot()", taken(cell).pot(), cell);
            c.due("one: thick()", taken(cell).thick(), cell);
        }
        c.due("two: the least of like ones", taken(9, 0).pot(), 0);
        c.due("two: y of one, x of the other", taken(7, 40).pot(), 0);
        c.due("three", taken(0, 7, 43).pot(), 3);
        c.due("three in the middle", taken(8, 21, 46).pot(), 21);
        c.due("four", taken(47, 47, 46, 38).pot(), 46);
        FieldBeeps x = taken(20);
        x.find(0, 0, 15);
        x.find(0, 1, 15);
        c.due("those that LIE don't count", x.pot(), 20);
    }

    private static void came() {
        FieldBeeps x = new FieldBeeps();
        x.find(3, 3, 64);
        x.find(5, 11, 24);
        x.find(2, 19, 11);
        x.find(4, 27, 14);
        x.find(3, 47, 204);
        c.due("came(0, 0)", x.came(0, 0), 3);
        c.due("-1 is odd", x.came(0, 1), 5);
        c.due("-2 is even", x.came(0, 2), 3);
        c.due("a HOARD by DEPTH as turned back: 10", x.came(1, 1), 11);
        c.due("then 2", x.came(1, 2), 10);
        c.due("then 10", x.came(1, 3), 10);
        c.due("then 2 again, less", x.came(1, 4), 9);
        c.due("x is held at last alone", x.came(1, 20), 8);
        c.due("IRON", x.came(2, 20), 19);
        c.due("LEAD", x.came(3, 19), 28);
        c.due("beyond x 7", x.came(4, 1), 47);
        c.due("beyond, and back: held at last", x.came(4, 2), 47);
        c.due("came(0, -1)", x.came(0, -1), BAD);
        c.due("came(0, 21)", x.came(0, 21), BAD);
        c.due("came(-1, 0)", x.came(-1, 0), BAD);
        c.due("came(5, 0)", x.came(5, 0), BAD);
        c.due("CELL stays", x.told(0, 1), 3);
        c.due("DEPTH stays", x.told(1, 2), 2);
    }

    private static void cameByYears() {
        FieldBeeps x = new FieldBeeps();
        x.find(1, 3, 25);
        x.find(5, 12, 124);
        x.find(5, 20, 134);
        x.plough();
        x.plough();
        x.plough();
        c.due("a silver: where it is", x.told(0, 1), 4);
        c.due("a silver: 1 ago", x.came(0, 1), 3);
        c.due("a silver: 2 ago", x.came(0, 2), 4);
        c.due("a silver: 3 ago", x.came(0, 3), 3);
        c.due("a hoard, now 12 less", x.told(1, 2), 0);
        c.due("a hoard: where it is", x.told(1, 1), 11);
        c.due("a hoard: 1 ago", x.came(1, 1), 11);
        c.due("a hoard: 2 ago", x.came(1, 2), 12);
        c.due("a hoard: 3 ago", x.came(1, 3), 12);
        c.due("a deep hoard: DEPTH", x.told(2, 2), 12);
        c.due("a deep hoard: where it is", x.told(2, 1), 21);
        c.due("a deep hoard: 1 ago, 0 deep", x.came(2, 1), 20);
        x.set(3, 0, 1);
        x.set(3, 2, 13);
        c.due("14 deep and more is never dragged", x.came(2, 20), 21);
        x.walk(0);
        c.due("it is TAKEN", x.told(0, 4), 1);
        c.due("TAKEN ones, too", x.came(0, 1), 3);
    }

    private static void dots() {
        FieldBeeps x = taken(5, 5, 6, 6, 47);
        c.due("dots(5)", x.dots(5), 2);
        c.due("dots(47)", x.dots(47), 1);
        c.due("dots(0)", x.dots(0), 0);
        c.due("dots(-1)", x.dots(-1), BAD);
        c.due("dots(48)", x.dots(48), BAD);
        c.due("thick(), of like ones the first", x.thick(), 5);
        x.find(0, 6, 15);
        x.find(0, 6, 15);
        c.due("those that LIE are no dots", x.dots(6), 2);
        c.due("nor thick", x.thick(), 5);
        x.walk(0);
        c.due("dots(6)", x.dots(6), 4);
        c.due("thick()", x.thick(), 6);
        c.due("thick() of the last cell", taken(47).thick(), 47);
        c.due("thick() of none", taken().thick(), NONE);
    }

    private static void judge() {
        FieldBeeps x = taken(0, 2, 2, 39, 47);
        c.due("judge(-1, 0)", x.judge(-1, 0), BAD);
        c.due("judge(4, 0)", x.judge(4, 0), BAD);
        c.due("judge(0, -1)", x.judge(0, -1), BAD);
        c.due("BAD ahead of -11", x.judge(0, 2), BAD);
        c.due("judge(0, 0)", x.judge(0, 0), -11);
        for (int sort = 0; sort < 3; sort++) {
            x.sheet(sort, sort, 40);
            c.due("all 0", x.judge(sort, 0), 0);
            c.due("all 0", x.judge(sort, 1), 3);
            x.cell(sort, 0, 1);
            c.due("then", x.judge(sort, 0), 2);
            c.due("then", x.judge(sort, 1), 2);
            x.cell(sort, 2, 2);
            c.due("the last item", x.judge(sort, 0), 39);
            c.due("the last item", x.judge(sort, 1), 1);
            x.cell(sort, 39, 1);
            c.due("as it is", x.judge(sort, 0), NONE);
            c.due("as it is", x.judge(sort, 1), 0);
            x.cell(sort, 3, -1);
            c.due("below 0", x.judge(sort, 0), 3);
        }
        x.sheet(0, 0, 3);
        x.cell(0, 0, 257);
        x.cell(0, 2, 2);
        c.due("of bytes the lowest 8 bits", x.judge(0, 0), NONE);
        x.sheet(3, 2, 0);
        c.due("of a sheet of none", x.judge(3, 0), NONE);
        c.due("of a sheet of none", x.judge(3, 1), 0);
    }

    private static void unseen() {
        FieldBeeps x = new FieldBeeps();
        c.due("nothing lies", x.unseen(), 0);
        x.find(0, 7, 15);
        x.find(1, 8, 15);
        x.find(0, 47, 15);
        c.due("unseen()", x.unseen(), 35);
        x.walk(1);
        c.due("walked, and TAKEN", x.unseen(), 33);
        x.walk(0);
        c.due("walked, though it LIES", x.unseen(), 32);
        x.found(63, 0);
        c.due("to ask isn't to walk", x.unseen(), 32);
        x.set(2, 2, 9);
        c.due("none LIES there, the other was walked", x.unseen(), 0);
        x.set(2, 2, 16);
        c.due("moved to where nobody walked", x.unseen(), 4);
        FieldBeeps y = taken(16);
        y.image();
        y.back();
        c.due("all are walked", y.unseen(), 0);
    }

    private static void left() {
        FieldBeeps x = new FieldBeeps();
        c.due("left(-1)", x.left(-1), BAD);
        c.due("left(2)", x.left(2), BAD);
        x.find(0, 0, 15);
        x.find(1, 1, 81);
        x.find(1, 2, 91);
        x.find(1, 3, 15);
        c.due("left(0)", x.left(0), 4);
        c.due("no digging; by PLATE 9 15; by PLATE 9 9; now", x.left(1), 2);
        x.walk(0);
        c.due("left(0), one is TAKEN", x.left(0), 3);
        c.due("left(1)", x.left(1), 2);
        x.find(2, 1, 201);
        c.due("a nail hides one more", x.left(1), 4);
        x.set(0, 0, 9);
        c.due("by WET it is heard", x.left(1), 2);
        c.due("PLATE stays", x.count(3), 3);
        x = Checks.ruled("digs plate = 9;hears 100 - plate;worth 1;");
        x.find(0, 0, 204);
        x.find(0, 1, 4);
        x.find(0, 1, 5);
        x.find(0, 2, 6);
        c.due("digs and hears by the same PLATE", x.left(1), 2);
        x = Checks.ruled("digs plate = 0 or plate = 10;hears 0;worth 1;");
        x.find(0, 0, 4);
        c.due("there is no PLATE 0, no PLATE 10", x.left(1), 1);
        x = Checks.ruled("digs plate = 4;hears 60;worth 1;");
        x.find(0, 0, 4);
        c.due("just as loud as hears", x.left(1), 0);
        x = Checks.ruled("digs plate = 4;hears 61;worth 1;");
        x.find(0, 0, 4);
        c.due("less loud", x.left(1), 1);
        x = Checks.ruled("digs plate = 1;hears 30;worth 1;");
        x.find(0, 0, 4);
        x.find(0, 0, 1);
        x.find(0, 0, 119);
        c.due("PLATE 1 alone digs, however deep", x.left(1), 2);
        x.set(3, 2, 10);
        x.set(1, 0, 9);
        c.due("which isn't THE PLATE now", x.left(1), 1);
    }

    private static void drawn() {
        FieldBeeps x = new FieldBeeps();
        x.find(1, 5, 15);
        x.find(4, 6, 19);
        x.find(5, 7, 16);
        x.walk(0);
        c.due("all TAKEN", x.count(1), 3);
        c.due("nothing LIES", x.drawn(1), 0);
        c.due("nothing LIES", (int) x.odds(1, 20, 1, 0), 0);
        x = Checks.ruled("digs 1;hears 0;worth 1;");
        x.find(0, 5, 15);
        // SEED 0: z 12345, DEPTH 0; SEED 1: z 1103527590, DEPTH 16838 % 21 = 17
        c.due("drawn(0)", x.drawn(0), 1);
        c.due("drawn(1)", x.drawn(1), 0);
        c.due("CELL stays", x.told(0, 1), 5);
        c.due("DEPTH stays", x.told(0, 2), 1);
        // SEED 0: CELL (12345 >>> 9) % 48 = 24
        x = Checks.ruled("digs y = 3 and x = 0;hears 0;worth 1;");
        x.find(0, 5, 15);
        c.due("CELL 24", x.drawn(0), 1);
        x = Checks.ruled("digs not (y = 3 and x = 0);hears 0;worth 1;");
        x.find(0, 5, 15);
        c.due("no other", x.drawn(0), 0);
        x.find(0, 5, 15);
        // the second: z 12345 * 1103515245 + 12345 = -740551042 (an int), CELL 6942219 % 48 = 27, DEPTH 54236 % 21 = 14
        c.due("too deep", x.drawn(0), 0);
        c.due("count(1)", x.count(1), 0);
        zOfThoseThatLie();
        cellsAndDepths();
    }

    /** z by long arithmetic, and whether just the FIND of that CELL is dug for, if not too deep. */
    private static void cellsAndDepths() {
        for (long seed = -2000000000L; seed < 2000000000L; seed += 123456789L) {
            long first = (seed * 1103515245L + 12345L) & 0xffffffffL;
            long second = (first * 1103515245L + 12345L) & 0xffffffffL;
            long[] cells = {(first >> 9) % 48, (second >> 9) % 48};
            long[] depths = {(first >> 16) % 21, (second >> 16) % 21};
            for (int f = 0; f < 2; f++) {
                FieldBeeps x = Checks.ruled("digs tone = " + (18 + f) + " and y * 8 + x = " + cells[f]
                        + ";hears 0;worth 1;");
                x.find(0, 0, 8);
                x.find(0, 0, 9);
                boolean blocked = f == 0 && cells[0] == cells[1];
                c.due("FIND " + f + " drawn by " + seed, x.drawn((int) seed), depths[f] <= 10 && !blocked ? 1 : 0);
            }
        }
    }

    private static void zOfThoseThatLie() {
        FieldBeeps x = Checks.ruled("digs y = 3 and x = 0 or x = 7;hears 0;worth 1;");
        x.find(0, 7, 15);
        x.find(0, 6, 15);
        c.due("the first is drawn to CELL 24", x.drawn(0), 1);
        x.walk(0);
        c.due("it is TAKEN", x.count(1), 1);
        c.due("now the second is", x.drawn(0), 1);
    }

    private static void odds() {
        FieldBeeps x = new FieldBeeps();
        int[][] wrong = {{0, 0, 0, 0}, {0, 21, 0, 0}, {0, -1, 0, 0}, {0, 1, -1, 0}, {0, 1, 13, 0}, {0, 1, 0, -1},
            {0, 1, 0, 2}};
        for (int[] w : wrong) {
            c.due("odds(.., " + w[1] + ", " + w[2] + ", " + w[3] + ")", x.odds(w[0], w[1], w[2], w[3]),
                    FieldBeeps.NO);
        }
        c.due("odds(0, 20, 0, 0)", x.odds(0, 20, 0, 0), 1);
        c.due("odds(0, 20, 0, 1)", x.odds(0, 20, 0, 1), 1);
        c.due("odds(0, 20, 12, 0)", x.odds(0, 20, 12, 0), 0);
        c.due("odds(0, 20, 12, 1)", x.odds(0, 20, 12, 1), 1);
        x = Checks.ruled(ALL);
        for (int i = 0; i < 12; i++) {
            x.find(i % 6, i, 19);
        }
        int[] seeds = {0, 77, -3, Integer.MAX_VALUE - 4, Integer.MIN_VALUE};
        for (int seed : seeds) {
            for (int n = 1; n <= 20; n++) {
                for (int least = 0; least <= 12; least += 3) {
                    oddsByDrawn(x, seed, n, least);
                }
            }
        }
        c.due("none is truly TAKEN", x.count(1), 0);
    }

    private static void oddsByDrawn(FieldBeeps x, int seed, int n, int least) {
        int above = 0;
        for (int i = 0; i < n; i++) {
            above += x.drawn(seed + i) >= least ? 1 : 0;
        }
        int a = above;
        int b = n;
        while (a != 0) {
            int r = b % a;
            b = a;
            a = r;
        }
        String call = "odds(" + seed + ", " + n + ", " + least + ", ";
        c.due(call + "0)", x.odds(seed, n, least, 0), above / b);
        c.due(call + "1)", x.odds(seed, n, least, 1), n / b);
    }

    private static void image() {
        FieldBeeps x = new FieldBeeps();
        c.due("back() without an image", x.back(), FieldBeeps.STATE);
        c.due("an image of nothing", x.image(), 0);
        x.find(1, 3, 15);
        c.due("FINDS that came since go", x.back(), 0);
        c.due("count(0)", x.count(0), 0);
        x.find(1, 3, 15);
        x.find(1, 11, 15);
        x.find(0, 19, 25);
        x.walk(1);
        c.due("image()", x.image(), 2);
        x.walk(0);
        x.plough();
        x.set(2, 2, 47);
        x.set(3, 2, 9);
        x.find(4, 20, 15);
        x.find(4, 21, 15);
        c.due("back()", x.back(), 2);
        c.due("count(0)", x.count(0), 3);
        c.due("count(1)", x.count(1), 1);
        int[][] due = {{3, 1, 0}, {11, 1, 1}, {19, 2, 0}};
        for (int f = 0; f < due.length; f++) {
            c.due("CELL of " + f, x.told(f, 1), due[f][0]);
            c.due("DEPTH of " + f, x.told(f, 2), due[f][1]);
            c.due("TAKEN of " + f, x.told(f, 4), due[f][2]);
        }
        c.due("THE YEAR", x.count(4), 0);
        c.due("WALKED", x.count(5), 2);
        c.due("the next FIND", x.find(2, 6, 71), 3);
        c.due("is itself", x.told(3, 0) * 1000 + x.told(3, 1) * 100 + x.told(3, 2) * 10 + x.told(3, 3), 2671);
        c.due("and LIES", x.told(3, 4), 0);
    }

    private static void imageOfTheRest() {
        FieldBeeps x = Checks.ruled(ALL);
        x.find(2, 0, 19);
        x.set(0, 0, 7);
        x.set(1, 0, 8);
        x.image();
        x.walk(0);
        x.force(0);
        x.set(0, 0, 1);
        x.set(1, 0, 2);
        x.feed(65);
        x.sheet(0, 2, 5);
        x.cell(0, 0, 7);
        x.find(0, 1, 15);
        x.walk(0);
        c.due("back()", x.back(), 1);
        c.due("WET", x.count(2), 7);
        c.due("PLATE", x.count(3), 8);
        c.due("WALKED", x.count(5), 0);
        c.due("THE RULE", x.count(8), 1);
        c.due("TEXTS stay", x.count(6), 2);
        c.due("THE TAPE stays", x.count(7), 1);
        c.due("SHEETS stay", x.judge(0, 1), 1);
        x.set(4, 0, 4);
        c.due("back() again", x.back(), 1);
        c.due("SIZE isn't kept", x.told(0, 3), 4);
        x.set(2, 0, 9);
        x.image();
        x.set(2, 0, 10);
        x.back();
        c.due("the newer image counts", x.told(0, 1), 9);
    }

    private static void counts() {
        FieldBeeps x = Checks.ruled(ALL);
        x.find(0, 0, 15);
        x.find(0, 8, 15);
        x.find(0, 9, 15);
        x.walk(1);
        x.set(0, 0, 5);
        x.set(1, 0, 6);
        x.plough();
        x.feed(1);
        x.feed(2);
        int[] due = {3, 2, 5, 6, 1, 2, 2, 2, 1};
        for (int what = 0; what < due.length; what++) {
            c.due("count(" + what + ")", x.count(what), due[what]);
        }
        c.due("count(-1)", x.count(-1), BAD);
        c.due("count(9)", x.count(9), BAD);
        c.due("count(MIN)", x.count(Integer.MIN_VALUE), BAD);
    }
}
