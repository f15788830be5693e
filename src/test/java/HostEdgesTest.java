/**
 * Edges of promises 29 to 33 (sheet, cell, copy, finds, taken): a test for each sentence, which is
 * quoted ahead of it. What a SHEET holds shows by the FINDS that come by it.
 */
public final class HostEdgesTest {
    private static final Checks c = new Checks();

    public static void main(String[] args) {
        sheets();
        sizes();
        missing();
        madeAnew();
        cells();
        lowestBytes();
        lowestShorts();
        ints();
        copyRefusals();
        copyOutside();
        copyOfNone();
        copyAsTheyWere();
        findsRefusals();
        findsOutside();
        findsThatCame();
        findsLeftOut();
        findsToTheLast();
        findsWithRoomForSome();
        taken();
        takenRefusals();
        c.end();
    }

    private static void sheets() {
        c.run("SHEETS 0 .. 3; of sort 0 bytes, 1 shorts, 2 ints", """
                sheet(-1, 0, 1) = BAD
                sheet(4, 0, 1) = BAD
                sheet(MIN, 0, 1) = BAD
                sheet(MAX, 0, 1) = BAD
                sheet(0, -2, 1) = BAD
                sheet(0, 3, 1) = BAD
                sheet(0, MIN, 1) = BAD
                sheet(0, MAX, 1) = BAD
                cell(0, 0, 1) = -11
                sheet(0, 0, 1) = 1
                sheet(1, 1, 1) = 1
                sheet(2, 2, 1) = 1
                sheet(3, 0, 1) = 1
                finds(0, 0, 0, 0) = 0
                finds(0, 1, 0, 0) = -13
                finds(0, 2, 0, 0) = -13
                finds(1, 0, 0, 0) = -13
                finds(1, 1, 0, 0) = 0
                finds(1, 2, 0, 0) = -13
                finds(2, 0, 0, 0) = -13
                finds(2, 1, 0, 0) = -13
                finds(2, 2, 0, 0) = 0
                finds(3, 0, 0, 0) = 0
                """);
    }

    private static void sizes() {
        for (int sort = 0; sort < 3; sort++) {
            c.run("n above 40; -14: a size below 0; sort " + sort, """
                    sheet(1, %1$d, 41) = BAD
                    sheet(1, %1$d, MAX) = BAD
                    sheet(1, %1$d, -1) = -14
                    sheet(1, %1$d, MIN) = -14
                    cell(1, 0, 1) = -11
                    sheet(1, %1$d, 0) = 1
                    cell(1, 0, 1) = -12
                    sheet(1, %1$d, 1) = 1
                    cell(1, 0, 1) = 1
                    cell(1, 1, 1) = -12
                    sheet(1, %1$d, 40) = 1
                    cell(1, 39, 1) = 1
                    cell(1, 40, 1) = -12
                    sheet(1, %1$d, 41) = BAD
                    sheet(1, %1$d, -1) = -14
                    judge(1, 0) = 39
                    """.formatted(sort));
        }
        c.run("BAD: no such SHEET, sort; n above 40; -14", """
                sheet(4, 0, -1) = BAD
                sheet(-1, 0, -1) = BAD
                sheet(0, 3, -1) = BAD
                sheet(0, -2, -1) = BAD
                sheet(4, -1, 0) = BAD
                sheet(-1, -1, 0) = BAD
                """);
    }

    private static void missing() {
        c.run("or missing (sort -1: n does not matter)", """
                sheet(0, -1, 0) = 1
                sheet(0, 0, 3) = 1
                sheet(0, -1, 41) = 1
                cell(0, 0, 1) = -11
                sheet(0, 0, 3) = 1
                sheet(0, -1, -1) = 1
                cell(0, 0, 1) = -11
                sheet(0, 0, 3) = 1
                sheet(0, -1, MIN) = 1
                judge(0, 0) = -11
                sheet(0, 0, 3) = 1
                sheet(0, -1, MAX) = 1
                finds(0, 0, 0, 0) = -11
                copy(0, 0, 0, 0, 0) = -11
                sheet(3, -1, 40) = 1
                """);
    }

    private static void madeAnew() {
        c.run("a row of n of a sort, all 0", """
                sheet(0, 0, 40)
                cell(0, 0, 7)
                cell(0, 39, 7)
                judge(0, 1) = 2
                sheet(0, 0, 40) = 1
                judge(0, 0) = NONE
                cell(0, 39, 7)
                sheet(0, -1, 0) = 1
                sheet(0, 2, 40) = 1
                judge(0, 0) = NONE
                cell(0, 39, 7)
                sheet(0, 2, 20) = 1
                sheet(0, 2, 40) = 1
                judge(0, 0) = NONE
                """);
        c.run("one SHEET alone", """
                sheet(0, 0, 40)
                sheet(1, 0, 40)
                sheet(2, 0, 40)
                cell(0, 39, 7)
                cell(2, 0, 7)
                sheet(1, 0, 40) = 1
                judge(0, 0) = 39
                judge(1, 0) = NONE
                judge(2, 0) = 0
                sheet(1, -1, 0) = 1
                judge(0, 1) = 1
                judge(2, 1) = 1
                """);
    }

    private static void cells() {
        c.run("Item i of a SHEET becomes v: BAD: no such SHEET; -11; -12", """
                cell(-1, 0, 1) = BAD
                cell(4, 0, 1) = BAD
                cell(MIN, 0, 1) = BAD
                cell(MAX, 0, 1) = BAD
                cell(4, -1, 1) = BAD
                cell(0, 0, 1) = -11
                cell(0, -1, 1) = -11
                cell(3, 40, 1) = -11
                sheet(1, 0, 3)
                sheet(2, 0, 3)
                cell(1, -1, 1) = -12
                cell(1, 3, 1) = -12
                cell(1, MIN, 1) = -12
                cell(1, MAX, 1) = -12
                judge(1, 0) = NONE
                judge(2, 0) = NONE
                cell(1, 0, 1) = 1
                cell(1, 2, 1) = 1
                judge(1, 0) = 0
                judge(1, 1) = 2
                judge(2, 0) = NONE
                cell(1, 0, 0) = 1
                judge(1, 0) = 2
                """);
    }

    /** Whether a number of a sort is held as DEPTH 12 and SIZE 7, or as none that a FIND can have. */
    private static void held(int sort, String v, int due) {
        c.run("of bytes, shorts its lowest 8, 16 bits: sort " + sort, """
                sheet(0, %1$d, 3)
                cell(0, 2, %2$s) = 1
                finds(0, %1$d, 0, 1) = %3$d
                """.formatted(sort, v, due == 0 ? 0 : 1)
                + (due == 0 ? "count(0) = 0" : "told(0, 2) = " + due / 10 + "\ntold(0, 3) = " + due % 10));
    }

    private static void lowestBytes() {
        held(0, "127", 127);
        held(0, "128", 0);              // -128
        held(0, "209", 0);              // -47
        held(0, "255", 0);              // -1
        held(0, "256", 0);
        held(0, "257", 1);
        held(0, "383", 127);
        held(0, "-128", 0);
        held(0, "-129", 127);
        held(0, "-255", 1);
        held(0, "-256", 0);
        held(0, "65663", 127);
        held(0, "MAX", 0);
        held(0, "MIN", 0);
        held(0, "-2147483647", 1);
    }

    private static void lowestShorts() {
        held(1, "209", 209);
        held(1, "256", 0);
        held(1, "32767", 0);
        held(1, "32768", 0);
        held(1, "65535", 0);
        held(1, "65536", 0);
        held(1, "65537", 1);
        held(1, "65745", 209);
        held(1, "-65327", 209);
        held(1, "-65535", 1);
        held(1, "257", 0);
        held(1, "MAX", 0);
        held(1, "-2147483647", 1);
    }

    private static void ints() {
        held(2, "209", 209);
        held(2, "257", 0);
        held(2, "65537", 0);
        held(2, "-255", 0);
        held(2, "MAX", 0);
        held(2, "MIN", 0);
        held(2, "-2147483647", 0);
    }

    private static final String TWO_ROWS = """
            sheet(0, 2, 6)
            cell(0, 0, 1)
            cell(0, 1, 8)
            cell(0, 2, 21)
            cell(0, 3, 4)
            cell(0, 4, 16)
            cell(0, 5, 43)
            sheet(1, 2, 9)
            """;

    private static void copyRefusals() {
        c.run("copy: BAD: no such SHEET; -11; -13: they are of unlike sorts; -12", """
                copy(-1, 0, 0, 0, 0) = BAD
                copy(4, 0, 0, 0, 0) = BAD
                copy(MIN, 0, 0, 0, 0) = BAD
                copy(MAX, 0, 0, 0, 0) = BAD
                copy(0, 0, -1, 0, 0) = BAD
                copy(0, 0, 4, 0, 0) = BAD
                copy(0, 0, MIN, 0, 0) = BAD
                copy(0, 0, MAX, 0, 0) = BAD
                copy(0, -1, 4, 0, -1) = BAD
                copy(0, 0, 0, 0, 0) = -11
                copy(0, -1, 1, 0, -1) = -11
                sheet(0, 0, 3)
                copy(0, 0, 1, 0, 1) = -11
                copy(1, 0, 0, 0, 1) = -11
                copy(0, -1, 1, -1, -1) = -11
                sheet(1, 1, 3)
                copy(0, 0, 1, 0, 1) = -13
                copy(1, 0, 0, 0, 1) = -13
                copy(0, 0, 1, 0, 0) = -13
                copy(0, 0, 1, 0, -1) = -13
                copy(0, 9, 1, 9, 9) = -13
                sheet(2, 2, 3)
                copy(1, 0, 2, 0, 1) = -13
                copy(0, 0, 2, 0, 1) = -13
                sheet(3, 0, 3)
                copy(0, 0, 3, 0, 4) = -12
                copy(0, 0, 3, 0, 3) = 3
                """);
    }

    private static void copyOutside() {
        c.run("-12 (also with n below 0)", TWO_ROWS + """
                copy(0, 0, 1, 0, -1) = -12
                copy(0, 0, 1, 0, MIN) = -12
                copy(0, 3, 1, 3, -1) = -12
                copy(0, -1, 1, 0, 1) = -12
                copy(0, MIN, 1, 0, 1) = -12
                copy(0, 0, 1, -1, 1) = -12
                copy(0, 0, 1, MIN, 1) = -12
                copy(0, 0, 1, 0, 7) = -12
                copy(0, 1, 1, 0, 6) = -12
                copy(0, 6, 1, 0, 1) = -12
                copy(0, 5, 1, 0, 2) = -12
                copy(1, 0, 0, 0, 7) = -12
                copy(0, 0, 1, 9, 1) = -12
                copy(0, 0, 1, 8, 2) = -12
                copy(0, 0, 1, 4, 6) = -12
                copy(0, MAX, 1, 0, 1) = -12
                copy(0, 0, 1, MAX, 1) = -12
                copy(0, 0, 1, 0, MAX) = -12
                copy(0, 1, 1, 1, MAX) = -12
                copy(0, MAX, 1, MAX, MAX) = -12
                copy(0, MAX, 1, 0, MIN) = -12
                judge(1, 0) = NONE
                judge(0, 1) = 6
                copy(0, 0, 1, 3, 6) = 6
                judge(1, 0) = 3
                judge(1, 1) = 6
                copy(0, 5, 1, 0, 1) = 1
                copy(0, 5, 1, 8, 1) = 1
                judge(1, 0) = 0
                """);
    }

    private static void copyOfNone() {
        c.run("n numbers: none, up to right behind the last", TWO_ROWS + """
                copy(0, 0, 1, 0, 0) = 0
                copy(0, 6, 1, 9, 0) = 0
                copy(0, 7, 1, 0, 0) = -12
                copy(0, 0, 1, 10, 0) = -12
                copy(0, -1, 1, 0, 0) = -12
                copy(0, 0, 1, -1, 0) = -12
                sheet(2, 2, 0)
                copy(2, 0, 2, 0, 0) = 0
                copy(2, 0, 2, 0, 1) = -12
                copy(2, 1, 2, 0, 0) = -12
                copy(0, 0, 2, 0, 0) = 0
                copy(0, 0, 2, 0, 1) = -12
                judge(1, 0) = NONE
                """);
        c.run("n numbers: all of 40", """
                sheet(0, 1, 40)
                sheet(3, 1, 40)
                cell(0, 0, 1)
                cell(0, 39, 1)
                copy(0, 0, 3, 0, 40) = 40
                copy(0, 0, 3, 0, 41) = -12
                judge(3, 0) = 0
                judge(3, 1) = 2
                copy(3, 40, 0, 40, 0) = 0
                copy(3, 41, 0, 0, 0) = -12
                """);
    }

    private static void copyAsTheyWere() {
        c.run("from item i on, to another one's item j on", TWO_ROWS + """
                copy(0, 3, 1, 3, 3) = 3
                finds(1, 2, 3, 1) = 1
                told(0, 0) = 4
                told(0, 1) = 16
                told(0, 2) = 4
                told(0, 3) = 3
                finds(0, 2, 0, 2) = 2
                told(1, 0) = 1
                told(1, 1) = 8
                told(1, 2) = 2
                told(1, 3) = 1
                told(2, 0) = 4
                """);
        c.run("(as they were): onto itself, upward", TWO_ROWS + """
                copy(0, 0, 0, 1, 5) = 5
                finds(0, 2, 1, 1) = 1
                told(0, 0) = 1
                told(0, 1) = 8
                told(0, 2) = 2
                told(0, 3) = 1
                cell(0, 3, 0)
                copy(0, 2, 0, 3, 3) = 3
                finds(0, 2, 3, 1) = 0       # 8, 0, 4
                cell(0, 5, 12)
                cell(0, 3, 5)
                finds(0, 2, 3, 1) = 1
                told(1, 0) = 5
                told(1, 1) = 0
                told(1, 2) = 1
                """);
        c.run("(as they were): onto itself, downward", TWO_ROWS + """
                copy(0, 1, 0, 0, 5) = 5
                finds(0, 2, 2, 1) = 1       # 8, 21, 4, 16, 43, 43
                told(0, 0) = 4
                told(0, 1) = 16
                told(0, 2) = 4
                told(0, 3) = 3
                finds(0, 2, 3, 1) = 0
                cell(0, 3, 2)
                finds(0, 2, 3, 1) = 1
                told(1, 0) = 2
                told(1, 1) = 43
                told(1, 2) = 4
                """);
        c.run("onto itself, in its place", TWO_ROWS + """
                copy(0, 0, 0, 0, 6) = 6
                finds(0, 2, 0, 2) = 2
                """);
        c.run("later the one changes without the other", TWO_ROWS + """
                copy(0, 0, 1, 0, 6) = 6
                cell(0, 0, 6)
                finds(1, 2, 0, 1) = 1
                cell(1, 0, 6)
                finds(1, 2, 0, 1) = 0
                """);
    }

    private static void findsRefusals() {
        c.run("finds: BAD: no such SHEET, sort, n; -13; -11", """
                finds(-1, 0, 0, 0) = BAD
                finds(4, 0, 0, 0) = BAD
                finds(MIN, 0, 0, 0) = BAD
                finds(MAX, 0, 0, 0) = BAD
                finds(0, -1, 0, 0) = BAD
                finds(0, 3, 0, 0) = BAD
                finds(0, MIN, 0, 0) = BAD
                finds(0, MAX, 0, 0) = BAD
                finds(0, 0, 0, -1) = BAD
                finds(0, 0, 0, 13) = BAD
                finds(0, 0, 0, MIN) = BAD
                finds(0, 0, 0, MAX) = BAD
                finds(0, 0, 0, 0) = -11
                finds(0, 1, 0, 12) = -11
                finds(0, 2, -1, 1) = -11
                sheet(0, 0, 3)
                finds(0, 0, 0, -1) = BAD
                finds(0, 0, 0, 13) = BAD
                finds(0, 1, 0, 13) = BAD
                finds(0, 1, 0, 0) = -13
                finds(0, 2, -1, 1) = -13
                finds(0, 0, 0, 0) = 0
                """);
    }

    private static void findsOutside() {
        c.run("-12: what stood ahead came", TWO_ROWS + """
                finds(0, 2, 0, 3) = -12
                count(0) = 2
                finds(0, 2, 3, 2) = -12
                count(0) = 3
                finds(0, 2, 0, 12) = -12
                count(0) = 5
                told(4, 0) = 4
                told(4, 1) = 16
                """);
        c.run("-12: nothing stood ahead", TWO_ROWS + """
                finds(0, 2, -1, 1) = -12
                finds(0, 2, -3, 2) = -12
                finds(0, 2, 4, 1) = -12
                finds(0, 2, 5, 1) = -12
                finds(0, 2, 6, 1) = -12
                finds(0, 2, 7, 12) = -12
                finds(0, 2, MIN, 12) = -12
                finds(0, 2, MAX, 12) = -12
                finds(0, 2, 2147483645, 12) = -12
                count(0) = 0
                finds(0, 2, 3, 1) = 1
                """);
        c.run("-12, and n 0: nothing is asked for", TWO_ROWS + """
                finds(0, 2, 0, 0) = 0
                finds(0, 2, 6, 0) = 0
                count(0) = 0
                """);
        c.run("-12: a SHEET of fewer than 3", """
                sheet(0, 0, 0)
                finds(0, 0, 0, 0) = 0
                finds(0, 0, 0, 1) = -12
                sheet(0, 0, 2)
                finds(0, 0, 0, 1) = -12
                """);
    }

    private static void findsThatCame() {
        c.run("from one on, three by three (as of find())", TWO_ROWS + """
                finds(0, 2, 0, 1) = 1
                finds(0, 2, 3, 1) = 1
                finds(0, 2, 0, 2) = 2
                count(0) = 4
                told(0, 0) = 1
                told(1, 0) = 4
                told(2, 0) = 1
                told(3, 0) = 4
                told(3, 1) = 16
                told(3, 2) = 4
                told(3, 3) = 3
                told(3, 4) = 0
                """);
    }

    private static void findsLeftOut() {
        c.run("how many came (others are left out)", TWO_ROWS + """
                cell(0, 0, 6)
                finds(0, 2, 0, 2) = 1
                told(0, 0) = 4
                cell(0, 0, -1)
                finds(0, 2, 0, 2) = 1
                cell(0, 0, 0)
                cell(0, 1, 48)
                finds(0, 2, 0, 2) = 1
                cell(0, 1, -1)
                finds(0, 2, 0, 2) = 1
                cell(0, 1, 0)
                cell(0, 2, 10)
                finds(0, 2, 0, 2) = 1
                cell(0, 2, 211)
                finds(0, 2, 0, 2) = 1
                cell(0, 2, -1)
                finds(0, 2, 0, 2) = 1
                cell(0, 2, 209)
                finds(0, 2, 0, 2) = 2
                count(0) = 9
                """);
        c.run("all are left out", """
                sheet(0, 2, 40)
                finds(0, 2, 0, 12) = 0
                finds(0, 2, 4, 12) = 0
                finds(0, 2, 5, 12) = -12
                count(0) = 0
                """);
    }

    private static void findsToTheLast() {
        StringBuilder lines = new StringBuilder("sheet(3, 1, 40)\n");
        for (int i = 0; i < 12; i++) {
            lines.append("cell(3, " + (4 + 3 * i) + ", " + i % 6 + ")\n");
            lines.append("cell(3, " + (5 + 3 * i) + ", " + 4 * i + ")\n");
            lines.append("cell(3, " + (6 + 3 * i) + ", " + (10 * i + 2) + ")\n");
        }
        c.run("n of them (0 .. 12), from the fifth item to the last", lines + """
                finds(3, 1, 4, 12) = 12
                count(0) = 12
                told(0, 0) = 0
                told(0, 1) = 0
                told(11, 0) = 5
                told(11, 1) = 44
                told(11, 2) = 11
                told(11, 3) = 2
                """);
        c.run("n of them (0 .. 12), one beyond the last item", lines + """
                finds(3, 1, 5, 12) = -12
                """);
    }

    private static void findsWithRoomForSome() {
        c.run("others are left out: there is room for one", TWO_ROWS + """
                11 times find(0, 0, 11)
                finds(0, 2, 0, 2) = 1
                count(0) = 12
                told(11, 0) = 1
                finds(0, 2, 0, 2) = 0
                finds(0, 2, 0, 3) = -12
                count(0) = 12
                """);
    }

    private static void taken() {
        String all = "find(0, 0, 11)\nfind(1, 0, 12)\nfind(2, 0, 13)\nfind(3, 0, 14)\nfind(4, 0, 15)\nfind(5, 0, 16)\n";
        c.run("of KIND k: FIND, over all", all + """
                taken(0, 0) = 1
                taken(1, 0) = 2
                taken(2, 0) = 3
                taken(3, 0) = 4             # also by others between
                taken(4, 0) = 5
                taken(5, 0) = 6
                """);
        c.run("of KIND k: SILVER, over FOIL and HOARD", all + """
                taken(0, 1) = -13
                taken(1, 1) = 2
                taken(2, 1) = -13
                taken(3, 1) = 4
                taken(4, 1) = -13
                taken(5, 1) = 6
                """);
        c.run("of KIND k: IRON", all + """
                taken(0, 2) = -13
                taken(1, 2) = -13
                taken(2, 2) = 3
                taken(3, 2) = -13
                taken(4, 2) = -13
                taken(5, 2) = -13
                """);
        c.run("of KIND k: FOIL", all + """
                taken(0, 3) = -13
                taken(1, 3) = -13
                taken(2, 3) = -13
                taken(3, 3) = 4
                taken(4, 3) = -13
                taken(5, 3) = -13
                """);
        c.run("of KIND k: LEAD", all + """
                taken(0, 4) = -13
                taken(1, 4) = -13
                taken(2, 4) = -13
                taken(3, 4) = -13
                taken(4, 4) = 5
                taken(5, 4) = -13
                """);
        c.run("of KIND k: HOARD", all + """
                taken(0, 5) = -13
                taken(1, 5) = -13
                taken(2, 5) = -13
                taken(3, 5) = -13
                taken(4, 5) = -13
                taken(5, 5) = 6
                """);
        c.run("its SIZE, as it is", """
                find(5, 0, 11)
                taken(0, 1) = 1
                set(4, 0, 9)
                taken(0, 1) = 9
                walk(0) = 1
                taken(0, 1) = 9
                """);
    }

    private static void takenRefusals() {
        c.run("BAD: k; -11: no such FIND; -13", """
                taken(0, -1) = BAD
                taken(0, 6) = BAD
                taken(0, MIN) = BAD
                taken(0, MAX) = BAD
                taken(-1, -1) = BAD
                taken(-1, 0) = -11
                taken(0, 0) = -11
                taken(0, 5) = -11
                find(0, 0, 11)
                taken(0, 6) = BAD
                taken(0, 5) = -13
                taken(0, 0) = 1
                taken(1, 0) = -11
                taken(12, 0) = -11
                taken(MIN, 0) = -11
                taken(MAX, 0) = -11
                11 times find(0, 0, 12)
                taken(11, 0) = 2
                taken(12, 0) = -11
                """);
    }
}
