/**
 * Edges of promises 8 to 16 (beep, walk, plough, found, years, soonest, strips, better, order): a
 * test for each sentence, which is quoted ahead of it.
 */
public final class WalkEdgesTest {
    private static final String ALL = "read(digs 1;hears 0;worth 1;) = 1\nforce(1) = 0\n";
    private static final Checks c = new Checks();

    public static void main(String[] args) {
        beepsOfCells();
        beepsOfFinds();
        stripsThatAreWalked();
        depthsOfDigging();
        digging();
        draggedUpward();
        draggedDownward();
        turned();
        draggedByDepthAsItWas();
        lastYear();
        found();
        worthFound();
        years();
        yearsToTheLast();
        soonest();
        soonestOfLikeOnes();
        soonestToTheLast();
        bestStrips();
        better();
        order();
        c.end();
    }

    private static void beepsOfCells() {
        c.run("THE BEEP of a CELL: BAD; NONE", ALL + """
                beep(-1) = BAD
                beep(48) = BAD
                beep(MIN) = BAD
                beep(MAX) = BAD
                beep(0) = NONE
                beep(47) = NONE
                find(0, 0, 11)
                find(0, 47, 11)
                beep(0) = 0
                beep(1) = NONE
                beep(8) = NONE
                beep(39) = NONE
                beep(46) = NONE
                beep(47) = 1
                """);
        c.run("of FINDS that LIE there", ALL + """
                find(0, 9, 15)
                beep(9) = 0
                walk(1) = 1
                beep(9) = NONE
                find(0, 9, 11)
                beep(9) = 1
                """);
    }

    private static void beepsOfFinds() {
        c.run("HEARD as loud as hears or louder", """
                read(digs 1;hears 28;worth 1;) = 1
                read(digs 1;hears 29;worth 1;) = 2
                read(digs 1;hears 30;worth 1;) = 3
                find(0, 0, 12)
                told(0, 7) = 29
                force(1)
                beep(0) = 0
                force(2)
                beep(0) = 0
                force(3)
                beep(0) = NONE
                """);
        c.run("HEARD, not LOUD", """
                read(digs 1;hears 29;worth 1;) = 1
                force(1)
                find(0, 0, 12)
                find(2, 0, 201)
                told(0, 6) = 29
                told(0, 7) = 19
                beep(0) = NONE
                """);
        c.run("the one that is HEARD loudest; of like ones the first", ALL + """
                find(0, 5, 12)
                find(4, 5, 12)
                beep(5) = 0
                find(4, 5, 13)
                beep(5) = 2
                find(0, 5, 13)
                beep(5) = 2
                set(3, 2, 2)
                beep(5) = 3
                set(4, 3, 1)
                set(4, 2, 1)
                beep(5) = 0
                """);
        c.run("of like ones the first: also of those that are HEARD 0", ALL + """
                find(0, 5, 201)
                find(1, 5, 201)
                beep(5) = 0
                """);
        c.run("the loudest of those as loud as their hears", """
                read(digs 1;hears 99 * (50 < tone);worth 1;) = 1
                force(1)
                find(1, 5, 13)
                find(0, 5, 11)
                told(0, 7) = 47
                beep(5) = 1
                set(3, 0, 0)
                set(4, 0, 8)
                told(0, 7) = 103
                beep(5) = 0
                """);
    }

    private static void stripsThatAreWalked() {
        c.run("A STRIP is truly walked: BAD", """
                walk(-1) = BAD
                walk(6) = BAD
                walk(32) = BAD
                walk(MIN) = BAD
                walk(MAX) = BAD
                count(5) = 0
                walk(0) = 0
                count(5) = 1
                walk(5) = 0
                count(5) = 33
                walk(5) = 0
                count(5) = 33
                walk(1) = 0
                walk(2) = 0
                walk(3) = 0
                walk(4) = 0
                count(5) = 63
                """);
        c.run("CELL by CELL: all 8 of it, and no other", ALL + """
                find(0, 7, 11)
                find(0, 8, 11)
                find(0, 11, 11)
                find(0, 15, 11)
                find(0, 16, 11)
                walk(1) = 3
                told(0, 4) = 0
                told(1, 4) = 1
                told(2, 4) = 1
                told(3, 4) = 1
                told(4, 4) = 0
                count(1) = 3
                walk(1) = 0
                walk(0) = 1
                walk(2) = 1
                """);
        c.run("the first and the last STRIP, in either way", ALL + """
                find(0, 0, 11)
                find(0, 7, 11)
                find(0, 40, 11)
                find(0, 47, 11)
                walk(5) = 2
                walk(0) = 2
                """);
        c.run("12 in one CELL", ALL + """
                12 times find(0, 20, 11)
                walk(2) = 12
                count(1) = 12
                beep(20) = NONE
                """);
    }

    private static void depthsOfDigging() {
        c.run("whose DEPTH is 10 at most", ALL + """
                find(0, 0, 101)
                find(0, 1, 111)
                walk(0) = 1
                told(0, 4) = 1
                told(1, 4) = 0
                set(3, 1, 10)
                walk(0) = 1
                """);
        c.run("while there is a BEEP whose DEPTH is 10 at most: a deep one that is louder ends it", ALL + """
                find(1, 0, 119)
                find(0, 0, 14)
                told(0, 7) = 47
                told(1, 7) = 49
                walk(0) = 1
                told(1, 4) = 1
                find(0, 0, 11)
                told(2, 7) = 19
                walk(0) = 0
                """);
    }

    private static void digging() {
        c.run("while there is a BEEP for which one digs", """
                find(0, 0, 15)
                find(1, 0, 13)
                told(0, 7) = 59
                told(1, 7) = 47
                walk(0) = 0
                set(4, 0, 3)
                told(0, 7) = 39
                walk(0) = 1
                told(1, 4) = 1
                """);
        c.run("that FIND is TAKEN; then on: what it hid is heard", """
                read(digs 1;hears 20;worth 1;) = 1
                force(1)
                find(2, 0, 12)
                find(0, 0, 11)
                told(1, 7) = 9
                walk(0) = 1
                told(1, 7) = 19
                walk(0) = 0
                find(2, 0, 12)
                set(4, 1, 2)
                told(1, 7) = 19
                walk(0) = 2
                """);
    }

    private static void draggedUpward() {
        c.run("x is DRAGS more, if THE YEAR is even (7, else the bound)", """
                find(3, 4, 14)
                find(3, 13, 14)
                find(3, 22, 14)
                find(3, 31, 14)
                find(0, 38, 14)
                find(0, 47, 14)
                find(2, 7, 14)
                plough() = 1
                told(0, 1) = 6
                told(1, 1) = 15
                told(2, 1) = 23
                told(3, 1) = 31
                told(4, 1) = 39
                told(5, 1) = 47
                told(6, 1) = 7
                """);
    }

    private static void draggedDownward() {
        c.run("else less (0, else the bound)", """
                plough() = 1
                find(3, 3, 14)
                find(3, 10, 14)
                find(3, 17, 14)
                find(3, 24, 14)
                find(0, 33, 14)
                find(0, 40, 14)
                find(2, 0, 14)
                plough() = 2
                told(0, 1) = 1
                told(1, 1) = 8
                told(2, 1) = 16
                told(3, 1) = 24
                told(4, 1) = 32
                told(5, 1) = 40
                told(6, 1) = 0
                plough() = 3
                told(0, 1) = 3
                told(1, 1) = 10
                told(6, 1) = 0
                """);
    }

    private static void turned() {
        c.run("DEPTH becomes 12 less DEPTH, if it is 12 at most, else 1 less", """
                find(2, 0, 4)
                find(2, 0, 14)
                find(2, 0, 64)
                find(2, 0, 114)
                find(2, 0, 124)
                find(2, 0, 134)
                find(2, 0, 144)
                find(2, 0, 204)
                plough() = 1
                told(0, 2) = 12
                told(1, 2) = 11
                told(2, 2) = 6
                told(3, 2) = 1
                told(4, 2) = 0
                told(5, 2) = 12
                told(6, 2) = 13
                told(7, 2) = 19
                plough() = 2
                told(0, 2) = 0
                told(5, 2) = 0
                told(6, 2) = 12
                """);
        c.run("of each FIND that LIES", ALL + """
                find(0, 3, 14)
                find(0, 11, 14)
                walk(0) = 1
                plough() = 1
                told(0, 1) = 3
                told(0, 2) = 1
                told(1, 1) = 12
                told(1, 2) = 11
                """);
    }

    private static void draggedByDepthAsItWas() {
        c.run("(DRAGS by DEPTH as it was): a HOARD", """
                find(5, 0, 24)
                find(5, 8, 34)
                find(5, 16, 94)
                find(5, 24, 104)
                find(5, 32, 124)
                find(5, 40, 134)
                plough() = 1
                told(0, 1) = 1
                told(0, 2) = 10
                told(1, 1) = 9
                told(1, 2) = 9
                told(2, 1) = 17
                told(2, 2) = 3
                told(3, 1) = 24
                told(3, 2) = 2
                told(4, 1) = 32
                told(4, 2) = 0
                told(5, 1) = 40
                told(5, 2) = 12
                """);
        c.run("a LEAD by its SIZE", """
                find(4, 0, 4)
                find(4, 8, 5)
                plough() = 1
                told(0, 1) = 1
                told(1, 1) = 8
                """);
    }

    private static void lastYear() {
        c.run("THE YEAR is 1 more (99 at most); 98 is even, 99 odd", """
                98 times plough() = 98
                find(0, 3, 61)
                plough() = 99
                told(0, 1) = 4
                plough() = 99
                told(0, 1) = 3
                plough() = 99
                told(0, 1) = 2
                count(4) = 99
                """);
        c.run("IN n YEARS, SOONEST: 99 at most there, too", """
                read(digs x = 0;hears 0;worth 1;) = 1
                force(1)
                98 times plough() = 98
                find(0, 3, 61)
                years(4) = 0
                years(5) = 0
                years(6) = 1
                soonest(0) = 5
                soonest(1) = 1
                count(4) = 98
                """);
    }

    private static void found() {
        c.run("FOUND BY STRIPS (bits): BAD", """
                found(-1, 0) = BAD
                found(64, 0) = BAD
                found(MIN, 0) = BAD
                found(MAX, 0) = BAD
                found(0, -1) = BAD
                found(0, 2) = BAD
                found(0, MIN) = BAD
                found(0, MAX) = BAD
                """);
        c.run("how many (what 0), worth (1)", """
                find(1, 0, 15)
                find(1, 15, 14)
                find(1, 16, 13)
                find(1, 31, 12)
                find(4, 32, 13)
                find(4, 47, 12)
                found(0, 0) = 0
                found(0, 1) = 0
                found(1, 0) = 1
                found(1, 1) = 55
                found(2, 0) = 1
                found(2, 1) = 54
                found(4, 1) = 53
                found(8, 1) = 52
                found(16, 1) = 33
                found(32, 1) = 32
                found(33, 0) = 2
                found(33, 1) = 87
                found(62, 0) = 5
                found(62, 1) = 224
                found(63, 0) = 6
                found(63, 1) = 279
                count(1) = 0
                count(5) = 0
                """);
        c.run("none of those that are TAKEN", """
                find(1, 0, 15)
                find(1, 1, 111)
                walk(0) = 1
                found(63, 0) = 0
                found(63, 1) = 0
                """);
    }

    private static void worthFound() {
        c.run("worth of these, each told as it is just ahead of being TAKEN", """
                read(digs 1;hears 0;worth loud;) = 1
                force(1)
                find(0, 0, 13)
                find(2, 0, 12)
                found(1, 1) = 58            # 29, as the nail still LIES, and 29
                set(4, 1, 3)
                found(1, 1) = 78            # the nail first, 39, and then 39
                set(4, 1, 4)
                found(1, 1) = 88            # the nail first, 49, and then 39
                """);
        c.run("the most that can be: 12 by 99", """
                read(digs 1;hears 0;worth 100;) = 1
                force(1)
                12 times find(0, 20, 11)
                found(63, 0) = 12
                found(63, 1) = 1188
                strips(1, 0) = 4
                strips(1, 1) = 1188
                years(20) = 12
                """);
    }

    private static void years() {
        c.run("IN n YEARS (0 .. 20)", """
                years(-1) = BAD
                years(21) = BAD
                years(MIN) = BAD
                years(MAX) = BAD
                years(0) = 0
                years(20) = 0
                """);
        c.run("each YEAR all STRIPS are walked, and then THE PLOUGH passes", ALL + """
                find(0, 3, 1)
                find(0, 47, 121)
                years(0) = 0
                years(1) = 1
                years(2) = 2
                years(20) = 2
                """);
        c.run("how many are TAKEN in all of these", ALL + """
                find(0, 0, 111)
                find(0, 9, 121)
                find(0, 18, 131)
                find(0, 27, 11)
                find(0, 36, 101)
                find(0, 45, 201)
                years(1) = 2
                years(2) = 4
                years(3) = 5
                years(9) = 5
                years(10) = 6
                years(20) = 6
                """);
        c.run("what one doesn't find is dragged on", """
                read(digs x = 5;hears 0;worth 1;) = 1
                force(1)
                find(3, 3, 61)
                years(1) = 0
                years(2) = 1
                plough()
                years(1) = 1
                set(2, 0, 7)
                years(1) = 0
                years(2) = 1
                """);
    }

    private static void yearsToTheLast() {
        c.run("IN 20 YEARS, 19 passes of THE PLOUGH: x of a HOARD is 6, and it is up", """
                read(digs x = 6;hears 0;worth 1;) = 1
                force(1)
                plough() = 1
                find(5, 0, 189)
                years(19) = 0
                years(20) = 1
                years(21) = BAD
                """);
        c.run("IN 20 YEARS, what would be up after 20 passes", """
                read(digs x = 6;hears 0;worth 1;) = 1
                force(1)
                find(5, 0, 199)
                years(20) = 0
                """);
    }

    private static void soonest() {
        c.run("SOONEST: n (what 0), how many then (1)", """
                soonest(-1) = BAD
                soonest(2) = BAD
                soonest(MIN) = BAD
                soonest(MAX) = BAD
                soonest(0) = 0
                soonest(1) = 0
                """);
        c.run("that by which, did THE PLOUGH pass n times, and nobody walk, most would be found", ALL + """
                find(0, 0, 1)
                find(0, 0, 121)
                find(0, 0, 121)
                soonest(0) = 1
                soonest(1) = 2
                find(0, 0, 201)
                find(0, 0, 201)
                soonest(0) = 9
                soonest(1) = 4
                count(4) = 0
                """);
        c.run("by all STRIPS", ALL + """
                find(0, 0, 111)
                find(0, 47, 111)
                soonest(0) = 1
                soonest(1) = 2
                """);
    }

    private static void soonestOfLikeOnes() {
        c.run("of like ones the least", ALL + """
                find(0, 0, 61)
                soonest(0) = 0
                soonest(1) = 1
                find(0, 0, 111)
                soonest(0) = 1
                soonest(1) = 2
                set(3, 1, 14)
                soonest(0) = 3
                soonest(1) = 2
                set(3, 1, 10)
                soonest(0) = 0              # 6 and 10, then 6 and 2
                soonest(1) = 2
                """);
        c.run("of like ones the least: nothing is found by any", """
                find(0, 0, 61)
                soonest(0) = 0
                soonest(1) = 0
                """);
    }

    private static void soonestToTheLast() {
        c.run("of n 0 .. 20: by 20", """
                read(digs x = 6;hears 0;worth 1;) = 1
                force(1)
                find(5, 0, 199)
                soonest(0) = 20
                soonest(1) = 1
                """);
        c.run("of n 0 .. 20: not by 21", """
                read(digs x = 6;hears 0;worth 1;) = 1
                read(digs x = 5;hears 0;worth 1;) = 2
                plough() = 1
                find(5, 0, 209)
                force(1)
                soonest(0) = 0
                soonest(1) = 0
                force(2)
                soonest(0) = 19
                soonest(1) = 1
                """);
    }

    private static void bestStrips() {
        c.run("BEST STRIPS: of k STRIPS (0 .. 6)", """
                strips(-1, 0) = BAD
                strips(7, 0) = BAD
                strips(MIN, 0) = BAD
                strips(MAX, 0) = BAD
                strips(1, -1) = BAD
                strips(1, 2) = BAD
                strips(1, MIN) = BAD
                strips(1, MAX) = BAD
                """);
        c.run("of like ones the least as bits: of none", """
                strips(0, 0) = 0
                strips(1, 0) = 1
                strips(2, 0) = 3
                strips(3, 0) = 7
                strips(4, 0) = 15
                strips(5, 0) = 31
                strips(6, 0) = 63
                strips(0, 1) = 0
                strips(6, 1) = 0
                """);
        c.run("of like ones the least as bits: of one STRIP, the last", """
                find(1, 47, 15)
                strips(0, 0) = 0
                strips(0, 1) = 0
                strips(1, 0) = 32
                strips(1, 1) = 55
                strips(2, 0) = 33
                strips(3, 0) = 35
                strips(4, 0) = 39
                strips(5, 0) = 47
                strips(6, 0) = 63
                strips(6, 1) = 55
                """);
        c.run("of like ones the least as bits: of two", """
                find(1, 8, 15)
                find(1, 24, 15)
                strips(1, 0) = 2
                strips(1, 1) = 55
                strips(2, 0) = 10
                strips(2, 1) = 110
                set(4, 1, 6)
                strips(1, 0) = 8
                strips(1, 1) = 56
                """);
        c.run("that by which worth FOUND is most, not how many", """
                find(4, 0, 11)
                find(4, 0, 11)
                find(5, 40, 19)
                strips(1, 0) = 32
                strips(1, 1) = 68
                found(1, 0) = 2
                found(1, 1) = 62
                """);
    }

    private static void better() {
        c.run("BETTER: how many more, were PLATE 1 more (9 at most)", """
                read(digs plate = 9;hears 0;worth 1;) = 1
                read(digs plate = 10;hears 0;worth 1;) = 2
                read(digs plate < 9;hears 0;worth 1;) = 3
                find(0, 0, 11)
                find(0, 47, 11)
                force(1)
                set(1, 0, 7)
                better() = 0
                set(1, 0, 8)
                better() = 2
                set(1, 0, 9)
                better() = 0
                force(2)
                better() = 0
                force(3)
                set(1, 0, 8)
                better() = -2
                set(1, 0, 9)
                better() = 0
                set(1, 0, 1)
                better() = 0
                count(3) = 1
                """);
        c.run("from 1 to 2", """
                read(digs plate = 2;hears 0;worth 1;) = 1
                force(1)
                find(0, 0, 11)
                better() = 0
                set(1, 0, 1)
                better() = 1
                """);
        c.run("of an empty field", "better() = 0");
    }

    private static void order() {
        c.run("ORDER, by PLATES (1 .. 9)", """
                order(0, 1) = BAD
                order(1, 0) = BAD
                order(10, 1) = BAD
                order(1, 10) = BAD
                order(-1, 1) = BAD
                order(1, -1) = BAD
                order(MIN, 1) = BAD
                order(1, MAX) = BAD
                order(1, 1) = 0
                order(9, 9) = 0
                """);
        c.run("by a PLATE a, then by a PLATE b: how many the second one still finds", """
                read(digs plate = 1 and x = 0 or plate = 9;hears 0;worth 1;) = 1
                force(1)
                find(0, 0, 11)
                find(0, 40, 11)
                find(0, 47, 11)
                order(1, 9) = 1
                order(9, 1) = 0
                order(8, 9) = 3
                order(8, 1) = 2
                order(1, 1) = 0
                order(9, 9) = 0
                order(2, 8) = 0
                count(3) = 3
                count(1) = 0
                """);
    }
}
