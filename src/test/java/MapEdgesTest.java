/**
 * Edges of promises 17 to 28 (pot, came, dots, thick, judge, unseen, left, drawn, odds, image, back,
 * count): a test for each sentence, which is quoted ahead of it.
 */
public final class MapEdgesTest {
    private static final String ALL = "read(digs 1;hears 0;worth 1;) = 1\nforce(1) = 0\n";
    private static final String WALKS = "walk(0)\nwalk(1)\nwalk(2)\nwalk(3)\nwalk(4)\nwalk(5)\n";
    private static final Checks c = new Checks();

    public static void main(String[] args) {
        pot();
        potOfLikeOnes();
        cameFrom();
        cameFromByYears();
        cameFromByDepth();
        cameFromHeld();
        cameFromOfTaken();
        dots();
        thick();
        judgedRefusals();
        judged();
        unseen();
        left();
        leftByPlates();
        drawn();
        drawnCells();
        drawnOneByOne();
        oddsRefusals();
        odds();
        oddsAtLeast();
        image();
        imageOfAll();
        imageAgain();
        findsSinceTheImage();
        counts();
        c.end();
    }

    /** FINDS that were TAKEN in these CELLS, and nothing else. */
    private static String taken(int... cells) {
        StringBuilder lines = new StringBuilder(ALL);
        for (int cell : cells) {
            lines.append("find(0, " + cell + ", 11)\n");
        }
        return lines + WALKS;
    }

    private static void pot() {
        c.run("NONE: none is TAKEN", ALL + """
                pot() = NONE
                find(0, 20, 11)
                pot() = NONE
                image() = 1
                walk(2) = 1
                pot() = 20
                back() = 1
                pot() = NONE
                """);
        c.run("one, in the first CELL", taken(0) + "pot() = 0");
        c.run("one, in the last CELL", taken(47) + "pot() = 47");
        c.run("over all TAKEN FINDS (where they lay then)", taken(20) + """
                find(0, 47, 111)
                find(0, 46, 111)
                pot() = 20
                plough() = 1
                pot() = 20
                walk(5) = 2
                pot() = 47                  # to which both were dragged
                """);
        c.run("3 times how far y, and how far x: the middle of either", taken(0, 20, 47) + "pot() = 20");
        c.run("the middle of either: no FIND need lie there", taken(1, 16, 47) + "pot() = 17");
    }

    private static void potOfLikeOnes() {
        c.run("of like ones the least: x 0 .. 7 of a STRIP", taken(0, 7) + "pot() = 0");
        c.run("of like ones the least: y 0 .. 5", taken(0, 40) + "pot() = 0");
        c.run("of like ones the least: y and x", taken(15, 40) + "pot() = 8");
        c.run("of like ones the least: of all CELLS", taken(47, 0) + "pot() = 0");
        c.run("of like ones the least: but one is less", taken(0, 7, 7) + "pot() = 7");
    }

    private static void cameFrom() {
        c.run("CAME FROM, n YEARS ago (0 .. 20): BAD", """
                came(0, 0) = BAD
                find(2, 9, 11)
                came(0, -1) = BAD
                came(0, 21) = BAD
                came(0, MIN) = BAD
                came(0, MAX) = BAD
                came(-1, 0) = BAD
                came(1, 0) = BAD
                came(12, 0) = BAD
                came(MIN, 0) = BAD
                came(MAX, 0) = BAD
                came(0, 0) = 9
                came(0, 20) = 9
                """);
        c.run("n 0: where it lies", """
                find(3, 47, 11)
                find(3, 40, 11)
                came(0, 0) = 47
                came(1, 0) = 40
                """);
    }

    private static void cameFromByYears() {
        c.run("if THE YEAR less i is even, else more: below 0", """
                find(0, 3, 61)
                came(0, 1) = 4              # -1 is odd
                came(0, 2) = 3              # -2 is even
                came(0, 3) = 4
                came(0, 19) = 4
                came(0, 20) = 3
                """);
        c.run("if THE YEAR less i is even, else more: 1 and 0", """
                plough() = 1
                find(0, 3, 61)
                came(0, 1) = 2              # 0
                came(0, 2) = 3              # -1
                plough() = 2
                told(0, 1) = 2
                came(0, 1) = 3              # 1
                came(0, 2) = 2              # 0
                came(0, 3) = 3              # -1
                """);
        c.run("THE YEAR 99", """
                99 times plough() = 99
                find(0, 3, 61)
                came(0, 1) = 2
                came(0, 2) = 3
                came(0, 20) = 3
                """);
    }

    private static void cameFromByDepth() {
        c.run("DEPTH becomes 12 less DEPTH, if it is 12 at most; DRAGS (by that DEPTH)", """
                find(5, 3, 24)
                find(5, 11, 34)
                find(5, 19, 124)
                find(5, 27, 134)
                find(5, 35, 4)
                came(0, 1) = 3              # 10
                came(1, 1) = 12             # 9
                came(2, 1) = 20             # 0
                came(3, 1) = 27             # 14
                came(4, 1) = 35             # 12
                came(0, 2) = 2              # 10, 2
                came(1, 2) = 11             # 9, 3
                came(2, 2) = 20             # 0, 12
                came(4, 2) = 34             # 12, 0
                """);
        c.run("else 1 more (20 at most): it is never up again", """
                find(5, 3, 134)
                find(5, 11, 194)
                find(5, 19, 204)
                came(0, 20) = 3
                came(1, 20) = 11
                came(2, 20) = 19
                told(2, 2) = 20
                """);
    }

    private static void cameFromHeld() {
        c.run("x at last held within 0 .. 7: 7", """
                find(3, 6, 14)
                find(3, 15, 14)
                find(3, 21, 14)
                came(0, 1) = 7              # 8
                came(0, 2) = 6              # 8, and then 6
                came(1, 1) = 15
                came(1, 2) = 15
                came(2, 1) = 23             # just 7
                came(2, 2) = 21
                """);
        c.run("x at last held within 0 .. 7: 0", """
                plough() = 1
                find(3, 1, 14)
                find(3, 8, 14)
                find(3, 18, 14)
                came(0, 1) = 0              # -1
                came(0, 2) = 1              # -1, and then 1
                came(1, 1) = 8
                came(1, 2) = 8
                came(2, 1) = 16             # just 0
                came(2, 2) = 18
                """);
        c.run("x at last held: far beyond", """
                find(5, 7, 24)
                find(5, 10, 24)
                came(0, 14) = 0             # 7 by 7 YEARS
                came(0, 12) = 1
                came(0, 20) = 0
                came(1, 4) = 8
                came(1, 20) = 8
                """);
        c.run("y stays", """
                find(3, 47, 14)
                find(3, 39, 14)
                came(0, 1) = 47
                came(1, 1) = 39
                """);
    }

    private static void cameFromOfTaken() {
        c.run("(TAKEN ones, too)", ALL + """
                find(0, 3, 61)
                walk(0) = 1
                came(0, 0) = 3
                came(0, 1) = 4
                plough() = 1
                came(0, 1) = 2
                came(0, 20) = 3
                """);
    }

    private static void dots() {
        c.run("DOTS of a CELL: BAD", """
                dots(-1) = BAD
                dots(48) = BAD
                dots(MIN) = BAD
                dots(MAX) = BAD
                dots(0) = 0
                dots(47) = 0
                """);
        c.run("TAKEN FINDS that lay there", taken(0, 47, 47) + """
                find(0, 0, 11)
                dots(0) = 1
                dots(1) = 0
                dots(46) = 0
                dots(47) = 2
                walk(0) = 1
                dots(0) = 2
                """);
        c.run("all 12", taken(9, 9, 9, 9, 9, 9, 9, 9, 9, 9, 9, 9) + "dots(9) = 12\nthick() = 9");
    }

    private static void thick() {
        c.run("THICK: NONE", ALL + """
                thick() = NONE
                find(0, 5, 11)
                thick() = NONE
                """);
        c.run("the CELL of most DOTS, of like ones the first", taken(47, 0) + """
                thick() = 0
                find(0, 47, 11)
                thick() = 0
                walk(5) = 1
                thick() = 47
                find(0, 0, 11)
                walk(0) = 1
                thick() = 0
                """);
        c.run("the last CELL", taken(47) + "thick() = 47");
    }

    private static void judgedRefusals() {
        c.run("BAD: SHEET, what; -11", """
                judge(-1, 0) = BAD
                judge(4, 0) = BAD
                judge(MIN, 0) = BAD
                judge(MAX, 0) = BAD
                judge(0, -1) = BAD
                judge(0, 2) = BAD
                judge(0, MIN) = BAD
                judge(0, MAX) = BAD
                judge(0, 0) = -11
                judge(3, 1) = -11
                sheet(0, 0, 1)
                judge(0, 2) = BAD
                judge(0, 0) = NONE
                judge(3, 0) = -11
                sheet(0, -1, 0)
                judge(0, 0) = -11
                """);
    }

    private static void judged() {
        c.run("NONE; a SHEET of no numbers", taken(0) + """
                sheet(0, 2, 0)
                judge(0, 0) = NONE
                judge(0, 1) = 0
                """);
        c.run("the first CELL for which it is otherwise: CELL 0", taken(0) + """
                sheet(0, 2, 1)
                judge(0, 0) = 0
                judge(0, 1) = 1
                cell(0, 0, 1)
                judge(0, 0) = NONE
                judge(0, 1) = 0
                cell(0, 0, 2)
                judge(0, 0) = 0
                cell(0, 0, -1)
                judge(0, 0) = 0
                """);
        c.run("CELLS 0, 1, ..: the last of 40", taken(39, 40) + """
                sheet(3, 0, 40)
                judge(3, 0) = 39
                judge(3, 1) = 1
                cell(3, 39, 1)
                judge(3, 0) = NONE
                judge(3, 1) = 0
                sheet(3, 0, 39)
                judge(3, 0) = NONE
                """);
        c.run("SLIPS: for how many it is", taken(0, 1, 1) + """
                sheet(1, 1, 3)
                judge(1, 0) = 0
                judge(1, 1) = 2
                cell(1, 0, 1)
                judge(1, 0) = 1
                judge(1, 1) = 1
                cell(1, 2, 9)
                judge(1, 0) = 1
                judge(1, 1) = 2
                cell(1, 1, 2)
                judge(1, 0) = 2
                judge(1, 1) = 1
                """);
        c.run("of bytes, shorts their lowest bits", taken(1) + """
                sheet(0, 0, 2)
                cell(0, 0, 256)
                cell(0, 1, 257)
                judge(0, 1) = 0
                cell(0, 0, -256)
                judge(0, 1) = 0
                cell(0, 0, 255)
                judge(0, 1) = 1
                sheet(0, 1, 2)
                cell(0, 0, 65536)
                cell(0, 1, 65537)
                judge(0, 1) = 0
                cell(0, 0, 256)
                judge(0, 1) = 1
                sheet(0, 2, 2)
                cell(0, 0, 65536)
                cell(0, 1, 65537)
                judge(0, 1) = 2
                """);
    }

    private static void unseen() {
        c.run("UNSEEN: STRIPS (bits) that weren't WALKED, and in which any FIND LIES", """
                unseen() = 0
                find(0, 0, 11)
                unseen() = 1
                find(0, 47, 11)
                unseen() = 33
                find(0, 7, 11)
                unseen() = 33
                find(0, 8, 11)
                unseen() = 35
                find(0, 39, 11)
                unseen() = 51
                walk(0) = 0
                unseen() = 50
                walk(5) = 0
                unseen() = 18
                walk(2) = 0
                unseen() = 18
                set(2, 3, 31)
                unseen() = 24
                """);
        c.run("one that is TAKEN doesn't LIE; an IMAGE keeps WALKED", ALL + """
                find(0, 0, 11)
                image() = 1
                walk(0) = 1
                unseen() = 0
                back() = 1
                unseen() = 1
                """);
    }

    private static void left() {
        c.run("LEFT: how many (what 0), of these never heard (1)", """
                left(-1) = BAD
                left(2) = BAD
                left(MIN) = BAD
                left(MAX) = BAD
                left(0) = 0
                left(1) = 0
                12 times find(0, 0, 11)
                left(0) = 12
                left(1) = 12
                """);
        c.run("how many FINDS LIE", ALL + """
                find(0, 0, 11)
                find(0, 8, 11)
                left(0) = 2
                walk(0) = 1
                left(0) = 1
                left(1) = 0
                walk(1) = 1
                left(0) = 0
                """);
        c.run("of these never heard: each one by itself", """
                read(digs plate = 9 or tone < 12 and plate = 2;hears 0;worth 1;) = 1
                read(digs plate = 9 and 11 < tone;hears 0;worth 1;) = 2
                find(0, 0, 12)
                find(0, 0, 12)
                find(0, 8, 11)
                find(0, 47, 13)
                force(1)
                left(1) = 0
                force(2)
                left(1) = 1
                """);
        c.run("TAKEN ones aren't of these", """
                read(digs 1;hears 0;worth 1;) = 1
                read(digs 0;hears 0;worth 1;) = 2
                force(1)
                find(0, 0, 11)
                find(0, 8, 11)
                walk(0) = 1
                force(2)
                left(0) = 1
                left(1) = 1
                """);
    }

    private static void leftByPlates() {
        c.run("there is no PLATE (1 .. 9): 1 and 9 are such, 0 and 10 aren't", """
                read(digs plate = 1;hears 0;worth 1;) = 1
                read(digs plate = 9;hears 0;worth 1;) = 2
                read(digs plate < 1 or 9 < plate;hears 0;worth 1;) = 3
                find(0, 0, 11)
                force(1)
                left(1) = 0
                force(2)
                left(1) = 0
                force(3)
                left(1) = 1
                count(3) = 3
                """);
        c.run("by which it is HEARD as loud as hears", """
                find(1, 0, 81)
                find(1, 1, 91)
                left(1) = 1                 # by PLATE 9 they are HEARD 15 and 9
                set(0, 0, 1)
                left(1) = 0                 # 11
                find(2, 1, 201)
                left(1) = 2                 # 1 for the nail, which is too deep itself
                """);
        c.run("just as loud", """
                read(digs 1;hears 61;worth 1;) = 1
                read(digs 1;hears 62;worth 1;) = 2
                find(0, 0, 52)
                set(1, 0, 9)
                told(0, 7) = 35
                set(4, 0, 3)
                set(3, 0, 3)
                set(0, 0, 2)
                told(0, 7) = 61
                force(1)
                left(1) = 0
                force(2)
                left(1) = 1
                """);
        c.run("and one digs: by the same PLATE", """
                read(digs plate < 5;hears 30;worth 1;) = 1
                force(1)
                find(0, 0, 12)
                find(0, 1, 11)
                find(0, 2, 21)
                left(1) = 2                 # by PLATE 4 they are HEARD 34, 24, 18
                """);
        c.run("however deep it lies", """
                find(5, 0, 189)
                left(1) = 0
                """);
    }

    private static void drawn() {
        c.run("DRAWN by any SEED", """
                drawn(0) = 0
                drawn(MIN) = 0
                drawn(MAX) = 0
                """);
        c.run("z = z * 1103515245 + 12345 (an int; SEED at first)", ALL + """
                find(0, 5, 11)
                drawn(0) = 1                # z 12345, DEPTH 0
                drawn(1) = 0                # z 1103527590, DEPTH 17
                drawn(-1) = 0               # z -1103502900, DEPTH 19
                drawn(MAX) = 0              # z 1043980748, DEPTH 11
                drawn(MIN) = 1              # z -2147471303, DEPTH 8
                """);
        c.run("its DEPTH (z >>> 16) % 21: 10 and 11, 0 and 20", ALL + """
                find(0, 5, 11)
                drawn(274) = 1
                drawn(753) = 1
                drawn(813) = 0
                drawn(194) = 0
                drawn(609) = 1
                drawn(1097) = 0
                count(1) = 0
                told(0, 1) = 5
                told(0, 2) = 1
                """);
    }

    private static void drawnCells() {
        c.run("its CELL (z >>> 9) % 48: 0 and 47", """
                read(digs y * 8 + x = 0;hears 0;worth 1;) = 1
                read(digs y * 8 + x = 47;hears 0;worth 1;) = 2
                find(0, 5, 11)
                force(1)
                drawn(609) = 1
                drawn(549) = 0
                force(2)
                drawn(609) = 0
                drawn(549) = 1
                """);
        c.run(">>> of z 0, 2147483647, -2147483648, -1", """
                read(digs y * 8 + x = 0;hears 0;worth 1;) = 1
                read(digs y * 8 + x = 15;hears 0;worth 1;) = 2
                read(digs y * 8 + x = 16;hears 0;worth 1;) = 3
                find(0, 5, 11)
                force(1)
                drawn(-59267453) = 1        # CELL 0, DEPTH 0
                force(2)
                drawn(-1916945634) = 1      # CELL 15, DEPTH 7
                force(3)
                drawn(2088216195) = 1       # CELL 16, DEPTH 8
                drawn(230538014) = 0        # CELL 31, DEPTH 15
                """);
    }

    private static void drawnOneByOne() {
        c.run("for each FIND that LIES, by numbers", """
                read(digs tone = 11;hears 0;worth 1;) = 1
                read(digs tone = 12;hears 0;worth 1;) = 2
                read(digs tone = 13;hears 0;worth 1;) = 3
                find(0, 5, 11)
                find(0, 5, 12)
                find(0, 5, 13)
                force(1)
                drawn(0) = 1                # CELLS 24, 27, 19, DEPTHS 0, 14, 0
                force(2)
                drawn(0) = 0
                force(3)
                drawn(0) = 1
                walk(0) = 1
                force(1)
                drawn(0) = 1
                force(2)
                drawn(0) = 0
                """);
        c.run("one that is TAKEN takes no z", """
                read(digs tone = 11;hears 0;worth 1;) = 1
                read(digs tone = 12;hears 0;worth 1;) = 2
                find(0, 5, 11)
                find(0, 5, 12)
                force(2)
                drawn(0) = 0
                force(1)
                set(4, 0, 3)
                set(4, 1, 1)
                walk(0) = 0
                set(4, 0, 1)
                set(4, 1, 2)
                walk(0) = 0
                set(2, 1, 9)
                walk(0) = 1
                force(2)
                drawn(0) = 1
                """);
        c.run("all of 12, none of 12", ALL + """
                12 times find(0, 5, 19)
                drawn(2828) = 12
                drawn(631) = 0
                count(1) = 0
                """);
    }

    private static void oddsRefusals() {
        c.run("IN n seeds (1 .. 20), at least so many (0 .. 12): NO: none such", """
                odds(0, 0, 0, 0) = NO
                odds(0, -1, 0, 0) = NO
                odds(0, 21, 0, 0) = NO
                odds(0, MIN, 0, 0) = NO
                odds(0, MAX, 0, 0) = NO
                odds(0, 1, -1, 0) = NO
                odds(0, 1, 13, 0) = NO
                odds(0, 1, MIN, 0) = NO
                odds(0, 1, MAX, 0) = NO
                odds(0, 1, 0, -1) = NO
                odds(0, 1, 0, 2) = NO
                odds(0, 1, 0, MIN) = NO
                odds(0, 1, 0, MAX) = NO
                odds(0, 1, 0, 0) = 1
                odds(0, 20, 12, 1) = 1
                """);
    }

    private static void odds() {
        c.run("part 0 above, 1 below the line, in lowest terms", ALL + """
                find(0, 5, 11)
                odds(0, 1, 1, 0) = 1
                odds(0, 1, 1, 1) = 1
                odds(0, 2, 1, 0) = 1
                odds(0, 2, 1, 1) = 2
                odds(0, 3, 1, 0) = 1
                odds(0, 3, 1, 1) = 3
                odds(0, 4, 1, 0) = 1        # 2 of 4
                odds(0, 4, 1, 1) = 2
                odds(0, 5, 1, 0) = 2
                odds(0, 5, 1, 1) = 5
                odds(0, 9, 1, 0) = 2        # 6 of 9
                odds(0, 9, 1, 1) = 3
                odds(0, 10, 1, 0) = 3       # 6 of 10
                odds(0, 10, 1, 1) = 5
                odds(0, 20, 1, 0) = 1       # 10 of 20
                odds(0, 20, 1, 1) = 2
                odds(1, 2, 1, 0) = 0        # 0 of 2
                odds(1, 2, 1, 1) = 1
                odds(5, 4, 1, 0) = 1        # 4 of 4
                odds(5, 4, 1, 1) = 1
                """);
        c.run("SEED and each 1 more (an int)", ALL + """
                find(0, 5, 11)
                odds(2147483638, 10, 1, 0) = 3      # 6 of 10
                odds(2147483638, 10, 1, 1) = 5
                odds(2147483638, 20, 1, 0) = 3      # 12 of 20
                odds(2147483638, 20, 1, 1) = 5
                odds(MAX, 1, 1, 0) = 0
                odds(MAX, 2, 1, 0) = 1
                odds(MAX, 2, 1, 1) = 2
                odds(MAX, 3, 1, 0) = 2
                odds(MAX, 3, 1, 1) = 3
                odds(-1, 2, 1, 0) = 1               # -1 and 0
                odds(-1, 2, 1, 1) = 2
                """);
    }

    private static void oddsAtLeast() {
        c.run("at least so many: 0", ALL + """
                12 times find(0, 5, 19)
                odds(631, 1, 0, 0) = 1
                odds(631, 1, 0, 1) = 1
                odds(631, 1, 1, 0) = 0
                odds(631, 1, 1, 1) = 1
                """);
        c.run("at least so many: 12", ALL + """
                12 times find(0, 5, 19)
                odds(2828, 1, 11, 0) = 1
                odds(2828, 1, 12, 0) = 1
                odds(2828, 1, 13, 0) = NO
                odds(2828, 2, 12, 0) = 1
                odds(2828, 2, 12, 1) = 2
                odds(0, 20, 12, 0) = 0
                odds(0, 20, 0, 0) = 1
                """);
        c.run("of an empty field", """
                odds(0, 20, 0, 0) = 1
                odds(0, 20, 0, 1) = 1
                odds(0, 20, 1, 0) = 0
                odds(0, 20, 1, 1) = 1
                """);
    }

    private static void image() {
        c.run("STATE: there is none", """
                back() = STATE
                find(0, 0, 11)
                back() = STATE
                count(0) = 1
                image() = 1
                back() = 1
                """);
        c.run("how many FINDS LIE", ALL + """
                image() = 0
                back() = 0
                12 times find(0, 0, 11)
                image() = 12
                walk(0) = 12
                image() = 0
                back() = 0
                count(1) = 12
                """);
        c.run("an IMAGE of an empty field", """
                image() = 0
                12 times find(0, 0, 11)
                find(0, 0, 11) = FULL
                back() = 0
                count(0) = 0
                told(0, 0) = BAD
                find(0, 0, 11) = 0
                """);
    }

    private static void imageOfAll() {
        c.run("AN IMAGE keeps where FINDS lie, which are TAKEN, WET, PLATE, THE YEAR, WALKED, THE RULE", ALL + """
                plough() = 1
                find(1, 12, 34)
                find(4, 20, 15)
                set(0, 0, 6)
                set(1, 0, 7)
                walk(2) = 1
                image() = 1
                set(2, 0, 45)
                set(3, 0, 8)
                set(0, 0, 1)
                set(1, 0, 2)
                walk(5) = 1
                plough() = 2
                force(0) = 1
                back() = 1
                told(0, 1) = 12
                told(0, 2) = 3
                told(0, 4) = 0
                told(1, 4) = 1
                count(1) = 1
                count(2) = 6
                count(3) = 7
                count(4) = 1
                count(5) = 4
                count(8) = 1
                """);
        c.run("and nothing else: TEXTS, THE TAPE, SHEETS", ALL + """
                image() = 0
                read(digs 0;hears 0;worth 1;) = 2
                feeds(digs)
                sheet(0, 2, 3)
                cell(0, 1, 5)
                back() = 0
                count(6) = 3
                count(7) = 4
                judge(0, 0) = 1
                judge(0, 1) = 1
                force(2) = 1
                """);
        c.run("and nothing else: what was ahead of it stays, too", ALL + """
                feeds(digs)
                sheet(0, 2, 3)
                cell(0, 1, 5)
                find(1, 12, 34)
                walk(1) = 1
                plough() = 1
                image() = 0
                count(0) = 1
                count(1) = 1
                count(4) = 1
                count(5) = 2
                count(6) = 2
                count(7) = 4
                count(8) = 1
                judge(0, 0) = 1
                feeds( 1;hears 0;worth 8;) = 23
                back() = 0
                count(7) = 23
                text() = 2
                """);
        c.run("where FINDS lie: not how large they are", """
                find(1, 12, 34)
                image() = 1
                set(4, 0, 9)
                back() = 1
                told(0, 3) = 9
                """);
    }

    private static void imageAgain() {
        c.run("the IMAGE stays as it was, however often all is laid back", ALL + """
                find(0, 3, 61)
                image() = 1
                walk(0) = 1
                plough() = 1
                back() = 1
                plough() = 1
                told(0, 1) = 4
                back() = 1
                told(0, 1) = 3
                count(4) = 0
                walk(0) = 1
                back() = 1
                told(0, 4) = 0
                """);
        c.run("a newer IMAGE is the one that is kept", """
                find(0, 3, 61)
                image() = 1
                set(2, 0, 9)
                image() = 1
                set(2, 0, 10)
                back() = 1
                told(0, 1) = 9
                """);
    }

    private static void findsSinceTheImage() {
        c.run("(FINDS that came since go)", ALL + """
                find(1, 3, 15)
                image() = 1
                find(2, 3, 16)
                find(3, 47, 17)
                walk(0) = 2
                back() = 1
                count(0) = 1
                count(1) = 0
                told(0, 4) = 0
                told(0, 7) = 67
                told(1, 0) = BAD
                beep(47) = NONE
                set(2, 1, 5) = BAD
                taken(1, 0) = -11
                came(1, 0) = BAD
                find(4, 5, 22) = 1
                told(1, 0) = 4
                told(1, 1) = 5
                told(1, 2) = 2
                told(1, 3) = 2
                told(1, 4) = 0
                told(2, 0) = BAD
                """);
    }

    private static void counts() {
        c.run("How many: 0 .. 8", """
                count(-1) = BAD
                count(9) = BAD
                count(MIN) = BAD
                count(MAX) = BAD
                count(0) = 0
                count(8) = 0
                """);
        c.run("each at its most", """
                read(digs1;hears0;worth1;)
                read(digs1;hears0;worth1;)
                read(digs1;hears0;worth1;)
                read(digs1;hears0;worth1;)
                read(digs1;hears0;worth1;)
                force(5)
                12 times find(0, 0, 61)
                set(0, 0, 9)
                set(1, 0, 9)
                99 times plough()
                """ + WALKS + """
                160 times feed(32)
                count(0) = 12
                count(1) = 12
                count(2) = 9
                count(3) = 9
                count(4) = 99
                count(5) = 63
                count(6) = 6
                count(7) = 160
                count(8) = 5
                """);
    }
}
