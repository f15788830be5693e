/**
 * Edges of promises 1 to 4 (a new object, find, set, told) and of the terms that they need: a test
 * for each sentence, which is quoted ahead of it.
 */
public final class FieldEdgesTest {
    private static final Checks c = new Checks();

    public static void main(String[] args) {
        newObject();
        cells();
        finds();
        kinds();
        depthsAndSizes();
        wetAndPlate();
        years();
        settingFinds();
        refusedSets();
        tones();
        louds();
        cutHalves();
        drags();
        heard();
        told();
        c.end();
    }

    private static void newObject() {
        c.run("An empty field; WET 0 at first, PLATE 3 at first, THE YEAR 0 at first, WALKED none at first", """
                count(0) = 0
                count(1) = 0
                count(2) = 0
                count(3) = 3
                count(4) = 0
                count(5) = 0
                count(6) = 1
                count(7) = 0
                count(8) = 0
                told(0, 0) = BAD
                unseen() = 0
                left(0) = 0
                """);
        c.run("SHEETS are missing at first", """
                judge(0, 0) = -11
                judge(1, 0) = -11
                judge(2, 0) = -11
                judge(3, 0) = -11
                """);
        c.run("there is no IMAGE at first", "back() = STATE");
        c.run("TEXT 0, at first THE RULE", """
                force(0) = 0
                force(1) = BAD
                """);
        c.run("all 48 CELLS are empty", """
                beep(0) = NONE
                beep(47) = NONE
                dots(0) = 0
                dots(47) = 0
                found(63, 0) = 0
                """);
    }

    private static void cells() {
        c.run("CELLS (y, x), y 0 .. 5, x 0 .. 7", """
                find(0, -1, 11) = BAD
                find(0, 48, 11) = BAD
                find(0, 0, 11) = 0
                find(0, 47, 11) = 1
                set(2, 0, -1) = BAD
                set(2, 0, 48) = BAD
                told(0, 1) = 0
                set(2, 0, 47) = 0
                told(0, 1) = 47
                set(2, 0, 0) = 47
                told(0, 1) = 0
                told(1, 1) = 47
                """);
        c.run("as numbers 8 times y, and x", """
                read(digs 1;hears 0;worth y;) = 1
                read(digs 1;hears 0;worth x;) = 2
                find(0, 0, 11)
                find(0, 7, 11)
                find(0, 8, 11)
                find(0, 40, 11)
                find(0, 47, 11)
                force(1)
                told(0, 9) = 0
                told(1, 9) = 0
                told(2, 9) = 1
                told(3, 9) = 5
                told(4, 9) = 5
                force(2)
                told(0, 9) = 0
                told(1, 9) = 7
                told(2, 9) = 0
                told(3, 9) = 0
                told(4, 9) = 7
                """);
    }

    private static void finds() {
        c.run("FINDS (12 at most, numbered from 0)", """
                find(0, 5, 11) = 0
                10 times find(1, 6, 12) = 10
                count(0) = 11
                find(5, 7, 13) = 11
                count(0) = 12
                find(0, 0, 11) = FULL
                count(0) = 12
                told(0, 1) = 5
                told(11, 0) = 5
                told(11, 1) = 7
                told(11, 3) = 3
                told(12, 0) = BAD
                """);
        c.run("find: BAD; FULL", """
                12 times find(0, 0, 11)
                find(6, 0, 11) = BAD
                find(0, 48, 11) = BAD
                find(0, 0, 10) = BAD
                find(5, 47, 209) = FULL
                """);
        c.run("a FIND that goes by an IMAGE makes room", """
                11 times find(0, 0, 11)
                image() = 11
                find(0, 0, 11) = 11
                find(0, 0, 11) = FULL
                back() = 11
                find(2, 9, 22) = 11
                find(0, 0, 11) = FULL
                """);
        c.run("TAKEN ones count, too", """
                12 times find(1, 0, 15)
                walk(0) = 12
                find(0, 0, 11) = FULL
                """);
    }

    private static void kinds() {
        c.run("KIND: 0 FIND .. 5 HOARD", """
                find(-1, 0, 11) = BAD
                find(6, 0, 11) = BAD
                find(MIN, 0, 11) = BAD
                find(MAX, 0, 11) = BAD
                find(0, 0, 11) = 0
                find(1, 0, 11) = 1
                find(2, 0, 11) = 2
                find(3, 0, 11) = 3
                find(4, 0, 11) = 4
                find(5, 0, 11) = 5
                told(0, 0) = 0
                told(1, 0) = 1
                told(2, 0) = 2
                told(3, 0) = 3
                told(4, 0) = 4
                told(5, 0) = 5
                """);
    }

    private static void depthsAndSizes() {
        c.run("DEPTH (0 .. 20), SIZE (1 .. 9); what: 10 times DEPTH, and SIZE", """
                find(0, 0, MIN) = BAD
                find(0, 0, -10) = BAD
                find(0, 0, -9) = BAD        # no DEPTH -1 and SIZE 1
                find(0, 0, -1) = BAD
                find(0, 0, 0) = BAD
                find(0, 0, 1) = 0
                find(0, 0, 9) = 1
                find(0, 0, 10) = BAD
                find(0, 0, 11) = 2
                find(0, 0, 199) = 3
                find(0, 0, 200) = BAD
                find(0, 0, 201) = 4
                find(0, 0, 209) = 5
                find(0, 0, 210) = BAD
                find(0, 0, 211) = BAD
                find(0, 0, MAX) = BAD
                count(0) = 6
                told(0, 2) = 0
                told(0, 3) = 1
                told(1, 2) = 0
                told(1, 3) = 9
                told(2, 2) = 1
                told(2, 3) = 1
                told(3, 2) = 19
                told(3, 3) = 9
                told(4, 2) = 20
                told(4, 3) = 1
                told(5, 2) = 20
                told(5, 3) = 9
                """);
        c.run("DEPTH (3) of a FIND becomes v", """
                find(0, 0, 55)
                set(3, 0, -1) = BAD
                set(3, 0, 21) = BAD
                set(3, 0, 0) = 5
                told(0, 2) = 0
                set(3, 0, 20) = 0
                told(0, 2) = 20
                """);
        c.run("SIZE (4) of a FIND becomes v", """
                find(0, 0, 55)
                set(4, 0, 0) = BAD
                set(4, 0, 10) = BAD
                set(4, 0, 1) = 5
                told(0, 3) = 1
                set(4, 0, 9) = 1
                told(0, 3) = 9
                """);
    }

    private static void wetAndPlate() {
        c.run("WET (0 .. 9; 0 at first)", """
                set(0, 0, -1) = BAD
                set(0, 0, 10) = BAD
                set(0, 0, MIN) = BAD
                set(0, 0, MAX) = BAD
                set(0, 0, 9) = 0
                count(2) = 9
                set(0, 0, 0) = 9
                count(2) = 0
                count(3) = 3
                """);
        c.run("PLATE (1 .. 9; 3 at first)", """
                set(1, 0, 0) = BAD
                set(1, 0, 10) = BAD
                set(1, 0, MIN) = BAD
                set(1, 0, MAX) = BAD
                set(1, 0, 9) = 3
                count(3) = 9
                set(1, 0, 1) = 9
                count(3) = 1
                count(2) = 0
                """);
        c.run("by 0, 1 of does not matter", """
                set(0, -1, 1) = 0
                set(0, 12, 2) = 1
                set(0, MIN, 3) = 2
                set(0, MAX, 4) = 3
                set(1, -1, 1) = 3
                set(1, 12, 2) = 1
                set(1, MIN, 4) = 2
                set(1, MAX, 5) = 4
                """);
        c.run("by 0, 1 of does not matter: be it a TAKEN one", """
                find(1, 0, 15)
                walk(0) = 1
                set(0, 0, 1) = 0
                set(1, 0, 1) = 3
                """);
    }

    private static void years() {
        c.run("THE YEAR (0 .. 99; 0 at first)", """
                count(4) = 0
                plough() = 1
                97 times plough() = 98
                plough() = 99
                count(4) = 99
                plough() = 99
                count(4) = 99
                """);
    }

    private static void settingFinds() {
        c.run("what it was", """
                find(1, 5, 53)
                find(2, 6, 64)
                set(2, 1, 7) = 6
                set(2, 1, 7) = 7
                set(3, 1, 9) = 6
                set(3, 1, 9) = 9
                set(4, 1, 5) = 4
                set(4, 1, 5) = 5
                told(1, 1) = 7
                told(1, 2) = 9
                told(1, 3) = 5
                told(1, 0) = 2
                told(0, 1) = 5
                told(0, 2) = 5
                told(0, 3) = 3
                """);
        c.run("what 0 .. 4", """
                find(1, 5, 53)
                set(-1, 0, 1) = BAD
                set(5, 0, 1) = BAD
                set(MIN, 0, 1) = BAD
                set(MAX, 0, 1) = BAD
                """);
        c.run("of a FIND: none such", """
                set(2, 0, 1) = BAD
                find(1, 5, 53)
                set(2, 0, 1) = 5
                set(2, 1, 1) = BAD
                set(3, 1, 1) = BAD
                set(4, 1, 1) = BAD
                set(2, -1, 1) = BAD
                set(3, -1, 1) = BAD
                set(4, -1, 1) = BAD
                set(4, 32, 1) = BAD
                11 times find(1, 5, 53) = 11
                set(2, 11, 1) = 5
                set(2, 12, 1) = BAD
                set(3, 12, 1) = BAD
                set(4, 12, 1) = BAD
                """);
    }

    private static void refusedSets() {
        c.run("STATE: a FIND that is TAKEN", """
                find(1, 5, 15)
                find(2, 5, 29)
                walk(0) = 0
                set(2, 0, 6) = 5
                walk(0) = 1
                set(2, 0, 6) = STATE
                set(3, 0, 6) = STATE
                set(4, 0, 6) = STATE
                set(2, 1, 6) = 5
                told(0, 1) = 6
                told(0, 2) = 1
                told(0, 3) = 5
                """);
        c.run("BAD; STATE", """
                find(1, 5, 15)
                walk(0) = 1
                set(2, 0, -1) = BAD
                set(2, 0, 48) = BAD
                set(3, 0, -1) = BAD
                set(3, 0, 21) = BAD
                set(4, 0, 0) = BAD
                set(4, 0, 10) = BAD
                set(5, 0, 1) = BAD
                """);
        c.run("one that is no more TAKEN by an IMAGE", """
                find(1, 5, 15)
                image() = 1
                walk(0) = 1
                back() = 1
                set(2, 0, 6) = 5
                """);
    }

    /** Of the SIZES 1, 4, 5, 9. */
    private static void rows(String what, int asked, String depth, int[][] due) {
        int[] sizes = {1, 4, 5, 9};
        for (int kind = 0; kind < due.length; kind++) {
            StringBuilder lines = new StringBuilder();
            for (int i = 0; i < sizes.length; i++) {
                lines.append("find(" + kind + ", 0, " + depth + sizes[i] + ")\n");
                lines.append("told(" + i + ", " + asked + ") = " + due[kind][i] + "\n");
            }
            c.run(what + ", KIND " + kind, lines.toString());
        }
    }

    private static void tones() {
        rows("TONE (HOARD: 9, if SIZE is above 4)", 5, "3", new int[][] {{11, 14, 15, 19}, {61, 64, 65, 69},
            {5, 7, 7, 9}, {60, 60, 60, 60}, {41, 44, 45, 49}, {61, 64, 74, 78}});
        c.run("TONE is by SIZE as it is", """
                find(5, 0, 34)
                told(0, 5) = 64
                set(4, 0, 5) = 4
                told(0, 5) = 74
                """);
    }

    /** A new object whose FINDS of all KINDS have this SIZE and DEPTH. */
    private static String allKinds(int plate, int wet, int depth, int size) {
        StringBuilder lines = new StringBuilder("set(1, 0, " + plate + ")\nset(0, 0, " + wet + ")\n");
        for (int kind = 0; kind < 6; kind++) {
            lines.append("find(" + kind + ", " + kind + ", " + (10 * depth + size) + ")\n");
        }
        return lines.toString();
    }

    private static void loud(String what, int plate, int wet, int depth, int size, int... due) {
        StringBuilder lines = new StringBuilder(allKinds(plate, wet, depth, size));
        for (int kind = 0; kind < 6; kind++) {
            lines.append("told(" + kind + ", 6) = " + due[kind] + "\n");
            lines.append("told(" + kind + ", 7) = " + due[kind] + "\n");
        }
        c.run(what, lines.toString());
    }

    private static void louds() {
        loud("LOUD: a FIND of 3", 1, 0, 2, 1, 3, 11, 3, 5, 3, 22);
        loud("0 at least, in the end: a FIND of -3", 1, 0, 3, 1, 0, 5, 0, 2, 0, 10);
        loud("a FIND of 0", 2, 2, 4, 1, 0, 8, 0, 4, 0, 16);
        loud("a FIND of 2", 2, 3, 4, 1, 2, 10, 0, 5, 2, 20);
        loud("a SILVER of 0", 2, 1, 5, 1, 0, 0, 0, 0, 0, 0);
        loud("a SILVER of 2", 2, 2, 5, 1, 0, 2, 0, 1, 0, 4);
        loud("a SILVER of -2", 2, 0, 5, 1, 0, 0, 0, 0, 0, 0);
        loud("an IRON of -2, for WET", 3, 9, 0, 1, 43, 51, 0, 25, 43, 102);
        loud("an IRON of 1", 3, 8, 0, 1, 41, 49, 1, 24, 41, 98);
        loud("the least of all", 1, 0, 20, 1, 0, 0, 0, 0, 0, 0);
        loud("the most of all", 9, 9, 0, 9, 153, 161, 108, 80, 153, 322);
        c.run("LOUD now: by PLATE, WET, DEPTH, SIZE as they are", """
                find(0, 0, 55)
                told(0, 6) = 35
                set(0, 0, 1)
                told(0, 6) = 37
                set(1, 0, 4)
                told(0, 6) = 42
                set(3, 0, 6)
                told(0, 6) = 36
                set(4, 0, 6)
                told(0, 6) = 46
                """);
    }

    private static void cutHalves() {
        loud("FOIL: half (cut) of a SILVER's: 1", 1, 1, 4, 1, 0, 1, 0, 0, 0, 2);
        loud("FOIL: half (cut) of a SILVER's: 3", 1, 2, 4, 1, 0, 3, 0, 1, 0, 6);
        loud("FOIL: half (cut) of a SILVER's: -1", 1, 0, 4, 1, 0, 0, 0, 0, 0, 0);
        c.run("IRON: half (cut) of a FIND's", """
                find(2, 0, 11)
                find(2, 0, 12)
                find(2, 0, 13)
                told(0, 5) = 5
                told(1, 5) = 6
                told(2, 5) = 6
                """);
    }

    private static void drags() {
        rows("DRAGS at DEPTH 9 (LEAD: 1 if SIZE is below 5; HOARD: if DEPTH is below 10)", 8, "9",
                new int[][] {{1, 1, 1, 1}, {1, 1, 1, 1}, {0, 0, 0, 0}, {2, 2, 2, 2}, {1, 1, 0, 0}, {1, 1, 1, 1}});
        rows("DRAGS at DEPTH 10", 8, "10",
                new int[][] {{1, 1, 1, 1}, {1, 1, 1, 1}, {0, 0, 0, 0}, {2, 2, 2, 2}, {1, 1, 0, 0}, {0, 0, 0, 0}});
    }

    private static void heard() {
        c.run("less 10 for each other FIND of KIND IRON that LIES in its CELL", """
                find(0, 5, 12)
                told(0, 7) = 29
                find(2, 5, 201)
                told(0, 7) = 19
                find(2, 5, 201)
                told(0, 7) = 9
                find(2, 6, 11)
                told(0, 7) = 9
                find(2, 4, 11)
                told(0, 7) = 9
                find(2, 13, 11)
                told(0, 7) = 9
                told(0, 6) = 29
                """);
        c.run("0 at least", """
                find(0, 5, 31)
                told(0, 6) = 7
                find(2, 5, 201)
                told(0, 7) = 0
                set(3, 0, 2)
                told(0, 6) = 13
                told(0, 7) = 3
                find(2, 5, 201)
                told(0, 7) = 0
                """);
        c.run("LOUD, less 10: just 10 is 0", """
                set(1, 0, 2)
                set(0, 0, 1)
                find(0, 5, 21)
                told(0, 7) = 10
                find(2, 5, 201)
                told(0, 7) = 0
                """);
        c.run("each other: a nail isn't hidden by itself", """
                find(2, 5, 11)
                told(0, 7) = 19
                find(2, 5, 11)
                told(0, 7) = 9
                told(1, 7) = 9
                """);
        c.run("other KINDS hide nothing", """
                find(0, 5, 12)
                find(0, 5, 12)
                find(1, 5, 12)
                find(3, 5, 12)
                find(4, 5, 12)
                find(5, 5, 12)
                told(0, 7) = 29
                """);
        c.run("HEARD (0, if TAKEN); a nail that is TAKEN hides nothing", """
                read(digs tone < 10;hears 0;worth 1;)
                force(1)
                find(2, 5, 13)
                find(0, 5, 12)
                told(0, 7) = 39
                told(1, 7) = 19
                walk(0) = 1
                told(0, 4) = 1
                told(0, 6) = 39
                told(0, 7) = 0
                told(1, 7) = 29
                """);
    }

    private static void told() {
        c.run("Of a FIND: 0 .. 9", """
                find(5, 47, 89)
                told(0, -1) = BAD
                told(0, 0) = 5
                told(0, 1) = 47
                told(0, 2) = 8
                told(0, 3) = 9
                told(0, 4) = 0
                told(0, 5) = 78
                told(0, 6) = 130
                told(0, 7) = 130
                told(0, 8) = 1
                told(0, 9) = 68
                told(0, 10) = BAD
                told(0, MIN) = BAD
                told(0, MAX) = BAD
                """);
        c.run("a FIND that is none such", """
                told(-1, 0) = BAD
                told(0, 0) = BAD
                find(0, 0, 11)
                told(0, 0) = 0
                told(1, 0) = BAD
                told(MIN, 0) = BAD
                told(MAX, 0) = BAD
                image()
                find(0, 0, 11)
                told(1, 0) = 0
                back()
                told(1, 0) = BAD
                """);
        c.run("9 worth now (loud: LOUD), whatever hides it", """
                read(digs 1;hears 0;worth loud;)
                force(1)
                find(0, 5, 12)
                find(2, 5, 11)
                told(0, 7) = 19
                told(0, 9) = 29
                walk(0) = 2
                told(0, 7) = 0
                told(0, 9) = 29
                """);
        c.run("worth (0 .. 99, else the bound)", """
                read(digs 1;hears 0;worth loud - 30;)
                force(1)
                find(0, 5, 12)
                told(0, 9) = 0          # -1
                set(0, 0, 1)
                told(0, 9) = 1
                set(4, 0, 9)
                set(1, 0, 9)
                told(0, 6) = 131
                told(0, 9) = 99         # 101
                set(0, 0, 0)
                told(0, 9) = 99         # 99
                set(1, 0, 8)
                told(0, 9) = 94
                """);
    }
}
