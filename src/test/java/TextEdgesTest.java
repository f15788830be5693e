/**
 * Edges of promises 5 to 7 (feed, text, force) and of what the document says of TEXTS: a test for
 * each sentence, which is quoted ahead of it.
 */
public final class TextEdgesTest {
    private static final String REST = ";hears 0;worth 1;";
    private static final Checks c = new Checks();

    public static void main(String[] args) {
        bytesOfTheTape();
        fullTape();
        emptyTape();
        textsAtMost();
        faultsInATape();
        blanks();
        numbers();
        words();
        signs();
        open();
        openAndClosed();
        endsTooEarly();
        oneByOne();
        grammar();
        truth();
        wraps();
        hears();
        worth();
        digs();
        names();
        firstText();
        forces();
        c.end();
    }

    private static void bytesOfTheTape() {
        c.run("A byte (0 .. 255)", """
                feed(-1) = BAD
                feed(256) = BAD
                feed(MIN) = BAD
                feed(MAX) = BAD
                count(7) = 0
                feed(0) = 1
                feed(255) = 2
                count(7) = 2
                """);
    }

    private static void fullTape() {
        c.run("THE TAPE (160 bytes at most)", """
                159 times feed(32) = 159
                feed(32) = 160
                count(7) = 160
                feed(32) = FULL
                feed(0) = FULL
                feed(255) = FULL
                count(7) = 160
                """);
        c.run("feed: BAD; FULL", """
                160 times feed(32) = 160
                feed(-1) = BAD
                feed(256) = BAD
                """);
        c.run("what was fed when it was full isn't there", """
                feeds(digs 1;hears 0;worth 7;)
                137 times feed(32) = 160
                feed(59) = FULL
                text() = 1
                """);
        c.run("the last byte of 160 is read", """
                feeds(digs 1;hears 0;worth 7;)
                136 times feed(32) = 159
                feed(59) = 160
                text() = -259
                """);
        c.run("a text's last sign as the last byte of 160", """
                feeds(digs 1;hears 0;worth 7)
                137 times feed(32) = 159
                feed(59) = 160
                text() = 1
                force(1) = 0
                find(0, 0, 11)
                told(0, 9) = 7
                """);
        c.run("the text's size, if it ends too early: 160", """
                feeds(digs 1;hears 0;worth 7)
                138 times feed(32) = 160
                text() = -260
                count(7) = 0
                """);
    }

    private static void emptyTape() {
        c.run("THE TAPE, which is empty then", """
                read(digs 1;hears 0;worth 7;) = 1
                count(7) = 0
                feed(32) = 1
                """);
        c.run("(by a FAULT, too)", """
                read(digs 1;hears 0;worth 7) = -122
                count(7) = 0
                feed(32) = 1
                """);
        c.run("a full one is empty then, and takes 160 bytes again", """
                160 times feed(32) = 160
                text() = -260
                160 times feed(32) = 160
                feed(32) = FULL
                """);
        c.run("-100 less the place of its FAULT: 0, as nothing is there", """
                text() = -100
                text() = -100
                count(6) = 1
                count(7) = 0
                """);
        c.run("nothing of a former tape is read", """
                read(digs 12345) = -105
                read(digs 1) = -106
                read(digs tonex) = -105
                read(digs tone) = -109
                read(digs 1;hears 0;worth 1;?) = -123
                read(digs 1;hears 0;worth 1;) = 1
                """);
    }

    private static void textsAtMost() {
        c.run("There are 6 TEXTS at most, TEXT 0 with them", """
                count(6) = 1
                read(digs 1;hears 0;worth 11;) = 1
                read(digs 1;hears 0;worth 12;) = 2
                read(digs 1;hears 0;worth 13;) = 3
                read(digs 1;hears 0;worth 14;) = 4
                count(6) = 5
                read(digs 1;hears 0;worth 15;) = 5
                count(6) = 6
                read(digs 1;hears 0;worth 16;) = FULL
                count(6) = 6
                find(2, 0, 11)
                told(0, 9) = 0
                force(1) = 0
                told(0, 9) = 11
                force(2) = 1
                told(0, 9) = 12
                force(3) = 2
                told(0, 9) = 13
                force(4) = 3
                told(0, 9) = 14
                force(5) = 4
                told(0, 9) = 15
                force(0) = 5
                told(0, 9) = 0
                """);
        c.run("FULL (ahead of all): no TEXT more has room (THE TAPE stays)", """
                read(digs1;hears1;worth1;) = 1
                read(digs1;hears1;worth1;) = 2
                read(digs1;hears1;worth1;) = 3
                read(digs1;hears1;worth1;) = 4
                read(digs1;hears1;worth1;) = 5
                text() = FULL
                count(7) = 0
                feeds(((() = 3
                text() = FULL
                count(7) = 3
                feeds(digs1;hears1;worth1;) = 23
                text() = FULL
                text() = FULL
                count(7) = 23
                137 times feed(32) = 160
                feed(32) = FULL
                text() = FULL
                count(7) = 160
                """);
        c.run("a TEXT of a FAULT takes no room", """
                read(digs1;hears1;worth1;) = 1
                read(digs1;hears1;worth1) = -119
                count(6) = 2
                read(digs0;hears1;worth2;) = 2
                read(?) = -100
                find(1, 0, 15)
                force(1) = 0
                found(1, 1) = 1
                force(2) = 1
                found(1, 0) = 0
                force(3) = BAD
                """);
    }

    private static void faultsInATape() {
        c.run("the place of the first byte of the first TOKEN that can't stand there: 0", """
                read(hears 1;) = -100
                read(1) = -100
                read(;) = -100
                read(?) = -100
                """);
        c.run("the first of two", """
                read(digs ) ?) = -105
                read(digs ? )) = -105
                read(digs 1 1 12345) = -107
                read(digs 12345 12345) = -105
                """);
        c.run("blanks ahead of it don't count as it", """
                read(  \\n ?) = -104
                read(digs\\n\\n?) = -106
                """);
        c.run("behind a whole text", """
                read(digs 1;hears 0;worth 1; digs 1;) = -124
                read(digs 1;hears 0;worth 1;;) = -123
                read(digs 1;hears 0;worth 1;1) = -123
                read(digs 1;hears 0;worth 1;)) = -123
                """);
    }

    private static void blanks() {
        c.run("blanks (32, 10) may stand between", """
                read(digs\\n1\\n;\\nhears\\n0\\n;\\nworth\\n1\\n;) = 1
                read( digs  1  ;  hears  0  ;  worth  1  ; ) = 2
                read(digs1;hears0;worth1;) = 3
                """);
        int[] none = {0, 1, 9, 11, 12, 13, 31, 33, 127, 128, 160, 255};
        for (int letter : none) {
            c.run("a byte that begins none: " + letter, """
                    feeds(digs 1)
                    feed(%d) = 7
                    feeds(;hears 0;worth 1;)
                    text() = -106
                    """.formatted(letter));
        }
        c.run("a blank ends a TOKEN", """
                read(digs 1 2;hears 0;worth 1;) = -107
                read(di gs 1;hears 0;worth 1;) = -100
                read(digs to ne;hears 0;worth 1;) = -105
                read(digs x y;hears 0;worth 1;) = -107
                """);
    }

    private static void numbers() {
        c.run("NUMBERS (as many digits as stand there, 4 at most)", """
                read(digs 9999;hears 0;worth 9999 - 9990;) = 1
                read(digs 0000;hears 0;worth 0009;) = 2
                read(digs 10000;hears 0;worth 1;) = -105
                read(digs 00000;hears 0;worth 1;) = -105
                read(digs 1;hears 0;worth 00001;) = -121
                read(digs 1 + 12345;hears 0;worth 1;) = -109
                find(0, 0, 11)
                force(1)
                told(0, 9) = 9
                force(2)
                told(0, 9) = 9
                """);
        c.run("a digit, a NAME without a blank between", """
                read(digs 5or x;hears 0;worth 1;) = 1
                read(digs 5x;hears 0;worth 1;) = -106
                read(digs x5;hears 0;worth 1;) = -106
                """);
        int[] none = {'/', ':'};
        for (int letter : none) {
            c.run("no digit: " + letter, """
                    feeds(digs 1)
                    feed(%d) = 7
                    text() = -106
                    """.formatted(letter));
        }
        c.run("the digits 0 and 9", """
                read(digs 1;hears 0;worth 90 - 9 * 9;) = 1
                force(1)
                find(0, 0, 11)
                told(0, 9) = 9
                """);
    }

    private static void words() {
        int[] none = {'`', '{', '@', '[', 'A', 'Z'};
        for (int letter : none) {
            c.run("WORDS (a .. z), not " + letter, """
                    feeds(digs x)
                    feed(%d) = 7
                    text() = -106
                    """.formatted(letter));
        }
        c.run("a WORD that is neither KEY nor NAME", """
                read(digs a;hears 0;worth 1;) = -105
                read(digs z;hears 0;worth 1;) = -105
                read(digs ton;hears 0;worth 1;) = -105
                read(digs tonee;hears 0;worth 1;) = -105
                read(digs loudx;hears 0;worth 1;) = -105
                read(digs xx;hears 0;worth 1;) = -105
                read(digs xz;hears 0;worth 1;) = -105
                read(digs xa;hears 0;worth 1;) = -105
                read(digs zx;hears 0;worth 1;) = -105
                read(digs ax;hears 0;worth 1;) = -105
                read(digs platewet;hears 0;worth 1;) = -105
                read(dig 1;hears 0;worth 1;) = -100
                read(digss 1;hears 0;worth 1;) = -100
                read(digs 1;hear 0;worth 1;) = -107
                read(digs 1;hears 0;worths 1;) = -115
                read(digs 1 xor 1;hears 0;worth 1;) = -107
                read(digs 1 nand 1;hears 0;worth 1;) = -107
                read(digs notx;hears 0;worth 1;) = -105
                """);
        c.run("digs, hears, worth, or, and, not are KEYS: no NAMES", """
                read(digs digs;hears 0;worth 1;) = -105
                read(digs hears;hears 0;worth 1;) = -105
                read(digs worth;hears 0;worth 1;) = -105
                read(digs or;hears 0;worth 1;) = -105
                read(digs and;hears 0;worth 1;) = -105
                read(digs not;hears 0;worth 1;) = -108
                read(digs 1 + not 1;hears 0;worth 1;) = -109
                """);
    }

    private static void signs() {
        String known = "();+-*<=";
        for (char sign = 33; sign < 127; sign++) {
            boolean begins = known.indexOf(sign) >= 0 || sign >= '0' && sign <= '9' || sign >= 'a' && sign <= 'z';
            if (!begins) {
                c.run("a byte that begins none: " + (int) sign, """
                        feeds(digs 1 + )
                        feed(%d) = 10
                        text() = -109
                        """.formatted((int) sign));
            }
        }
        c.run("SIGNS are one byte each", """
                read(digs 1<=2;hears 0;worth 1;) = -107
                read(digs 1==2;hears 0;worth 1;) = -107
                read(digs 1**2;hears 0;worth 1;) = -107
                read(digs 1--2;hears 0;worth 1;) = 1
                """);
    }

    /** An E that may be read, and the same with one more opened: the ^ stands ahead of the FAULT. */
    private static void openEdge(String most, String marked) {
        int place = 5 + marked.indexOf('^');
        String more = marked.replace("^", "");
        c.run("while 5 of these are open", "read(digs " + most + REST + ") = 1\n"
                + "read(digs " + more + REST + ") = " + (-100 - place) + "\n"
                + "count(6) = 2\n");
        if (most.length() < 120) {
            c.run("of hears and worth as well", "read(digs 1;hears " + most + ";worth 1;) = 1\n"
                    + "read(digs 1;hears 1;worth " + most + ";) = 2\n"
                    + "read(digs 1;hears " + more + ";worth 1;) = " + (-108 - place) + "\n"
                    + "read(digs 1;hears 1;worth " + more + ";) = " + (-116 - place) + "\n");
        }
    }

    private static void open() {
        openEdge("(((((1)))))", "(((((^(1))))))");
        openEdge("not not not not not 1", "not not not not not ^not 1");
        openEdge("-----1", "-----^-1");
        openEdge("((((-1))))", "(((((^-1)))))");
        openEdge("((((not 1))))", "(((((^not 1)))))");
        openEdge("not not not not (1)", "not not not not not ^(1)");
        openEdge("not not not not -1", "not not not not not ^-1");
        openEdge("----(1)", "-----^(1)");
        openEdge("not (-(not 1))", "not (-(not ^(1)))");
        openEdge("not (-(not 1))", "not (-(not ^-1))");
        openEdge("(1 + (2 * (3 - (4 < (5)))))", "(1 + (2 * (3 - (4 < (5 + ^-1)))))");
    }

    private static void openAndClosed() {
        c.run("a ( till its )", """
                read(digs (((((1)))))+(((((2)))));hears 0;worth 1;) = 1
                read(digs (1)+(2)+(3)+(4)+(5)+(6);hears 0;worth 1;) = 2
                read(digs ((((1)+(2)))+((3)+((4))));hears 0;worth 1;) = 3
                read(digs (((((1)))))+((((((2))))));hears 0;worth 1;) = -122
                """);
        c.run("not till what belongs to it ends: it takes a comparison, and no and", """
                read(digs not not not not not 1 and not 1 or not 1;hears 0;worth 1;) = 1
                read(digs not not not not not 1 < -1;hears 0;worth 1;) = -129
                read(digs not not not not 1 < -1;hears 0;worth 1;) = 2
                read(digs not not not not not 1 < 1 and -1;hears 0;worth 1;) = 3
                read(digs not not not not not 1 + (1);hears 0;worth 1;) = -129
                """);
        c.run("- till what belongs to it ends: a ONE", """
                read(digs -----1*-1+-1--1<-1;hears 0;worth 1;) = 1
                read(digs -----1 and -----1;hears 0;worth 1;) = 2
                read(digs -----(1);hears 0;worth 1;) = -110
                """);
        c.run("a - that is ahead of no ONE opens nothing", """
                read(digs 1-1-1-1-1-1-1-1;hears 0;worth 1;) = 1
                read(digs (((((1-1)))));hears 0;worth 1;) = 2
                read(digs 1-----1;hears 0;worth 1;) = 3
                read(digs 1------1;hears 0;worth 1;) = 4
                read(digs 1-------1;hears 0;worth 1;) = -112
                """);
        c.run("of one E nothing stays open for the next", """
                read(digs -----1;hears -----1;worth -----1;) = 1
                """);
        c.run("after a FAULT of too many nothing stays open", """
                read(digs ((((((1) = -110
                read(digs (((((1)))));hears 0;worth 1;) = 1
                """);
    }

    private static void endsTooEarly() {
        String text = "digs (1);hears not -1;worth x<2;";
        for (int size = 0; size < text.length(); size++) {
            char next = text.charAt(size);
            char last = size == 0 ? ';' : text.charAt(size - 1);
            boolean cutsWord = isLetter(next) && isLetter(last);
            if (!cutsWord) {
                c.run("(the text's size, if it ends too early)",
                        "read(" + text.substring(0, size) + ") = " + (-100 - size) + "\ncount(6) = 1\n");
            }
        }
        c.run("the whole of it", "read(" + text + ") = 1");
        c.run("(the text's size, if it ends too early): behind its blanks", """
                read(digs 1;  \\n) = -110
                read( ) = -101
                """);
    }

    private static boolean isLetter(char sign) {
        return sign >= 'a' && sign <= 'z';
    }

    private static void oneByOne() {
        c.run("TEXT: digs E ; hears E ; worth E ;", """
                read(digs ;hears 0;worth 1;) = -105
                read(digs 1 hears 0;worth 1;) = -107
                read(digs 1;worth 1;hears 0;) = -107
                read(digs 1;digs 1;) = -107
                read(digs 1;hears;worth 1;) = -112
                read(digs 1;hears 0;worth;) = -120
                read(worth 1;hears 0;digs 1;) = -100
                read(digs 1);hears 0;worth 1;) = -106
                read(digs (1;hears 0;worth 1;) = -107
                read(digs ();hears 0;worth 1;) = -106
                """);
        c.run("E: AND { or AND }", """
                read(digs 1 or;hears 0;worth 1;) = -109
                read(digs or 1;hears 0;worth 1;) = -105
                read(digs 1 or or 1;hears 0;worth 1;) = -110
                read(digs 1 or and 1;hears 0;worth 1;) = -110
                """);
        c.run("AND: NOT { and NOT }", """
                read(digs 1 and;hears 0;worth 1;) = -110
                read(digs and 1;hears 0;worth 1;) = -105
                read(digs 1 and and 1;hears 0;worth 1;) = -111
                """);
        c.run("NOT: not NOT, or SUM, perhaps < or = and a SUM", """
                read(digs 1 not 1;hears 0;worth 1;) = -107
                read(digs not;hears 0;worth 1;) = -108
                read(digs 1<2<3;hears 0;worth 1;) = -108
                read(digs 1=2=3;hears 0;worth 1;) = -108
                read(digs 1<2=3;hears 0;worth 1;) = -108
                read(digs 1<;hears 0;worth 1;) = -107
                read(digs 1=not 1;hears 0;worth 1;) = -107
                read(digs <1;hears 0;worth 1;) = -105
                read(digs =1;hears 0;worth 1;) = -105
                """);
        c.run("SUM: TERM { + or - TERM }; TERM: ONE { * ONE }", """
                read(digs +1;hears 0;worth 1;) = -105
                read(digs 1+;hears 0;worth 1;) = -107
                read(digs 1+*1;hears 0;worth 1;) = -107
                read(digs *1;hears 0;worth 1;) = -105
                read(digs 1*;hears 0;worth 1;) = -107
                read(digs 1*+1;hears 0;worth 1;) = -107
                read(digs 1(2);hears 0;worth 1;) = -106
                """);
        c.run("ONE: a NUMBER, a NAME, - ONE, ( E )", """
                read(digs -;hears 0;worth 1;) = -106
                read(digs -not 1;hears 0;worth 1;) = -106
                read(digs (not 1);hears 0;worth 1;) = 1
                read(digs (1 or 0;hears 0;worth 1;) = -112
                read(digs (1 0);hears 0;worth 1;) = -108
                """);
    }

    /** Whether an E is so much: worth is 7 if it is, else 0. */
    private static void value(String e, String due) {
        c.run(e + " is " + due, "read(digs 1;hears 0;worth 7 * ((" + e + ") = (" + due + "));) = 1\n"
                + "force(1) = 0\nfind(1, 21, 57)\nset(0, 0, 4)\nset(1, 0, 8)\ntold(0, 9) = 7\n");
    }

    private static void grammar() {
        value("1 or 1 and 0", "1");
        value("(1 or 1) and 0", "0");
        value("0 and 0 or 1", "1");
        value("not 1 and 0", "0");
        value("not 1 or 1", "1");
        value("not 0 < 0", "1");
        value("not 2 = 1 + 1", "0");
        value("1 + 2 < 2 + 2", "1");
        value("7 - 2 - 1", "4");
        value("7 - 2 * 3", "1");
        value("2 * 3 * 4 - 1", "23");
        value("-2 * -3", "6");
        value("- 2 - - 3", "1");
        value("-(2 - 5)", "3");
    }

    private static void truth() {
        value("5 or 0", "1");
        value("0 or -5", "1");
        value("0 or 0", "0");
        value("2 and 4", "1");
        value("-1 and 1", "1");
        value("2 and 0", "0");
        value("0 and 2", "0");
        value("not 0", "1");
        value("not 1", "0");
        value("not 2", "0");
        value("not -1", "0");
        value("not not 9", "1");
        value("2 < 3", "1");
        value("3 < 3", "0");
        value("4 < 3", "0");
        value("3 = 3", "1");
        value("3 = 4", "0");
        value("-1 < 0", "1");
        value("not 16 * 256 * 4096 * 256", "1");
        value("1 and 16 * 256 * 4096 * 128", "1");
    }

    /** 2147483647 and -2147483648, as long as NUMBERS have 4 digits. */
    private static final String MOST = "(4096*4096*64-1+4096*4096*64)";
    private static final String LEAST = "(-4096*4096*128)";

    private static void wraps() {
        value(MOST + " + 1", LEAST);
        value(LEAST + " - 1", MOST);
        value("-" + LEAST, LEAST);
        value("0 - " + LEAST, LEAST);
        value("-" + MOST, LEAST + " + 1");
        value(MOST + "*2", "-2");
        value(LEAST + "*2", "0");
        value("4096*4096*256", "0");
        value("4096*4096*128", LEAST);
        value("9999*9999*9999", cube());
        value(LEAST + " < " + MOST, "1");
        value(MOST + " < " + LEAST, "0");
        value(MOST + " + 1 < 0", "1");
    }

    /** 9999 by 9999 by 9999 as an int, by sums of what NUMBERS can tell. */
    private static String cube() {
        int v = (int) (9999L * 9999L * 9999L);
        return "(" + (v / 8192 / 8192) + "*8192+" + (v / 8192 % 8192) + ")*8192+" + (v % 8192);
    }

    private static void hears() {
        c.run("hears (0 .. 99, else the bound): -1 is 0", """
                read(digs 1;hears -1;worth 1;) = 1
                force(1)
                find(0, 0, 201)
                told(0, 7) = 0
                beep(0) = 0
                """);
        c.run("hears 0: what is HEARD 0 is as loud; hears 1: it isn't", """
                read(digs 1;hears 0;worth 1;) = 1
                read(digs 1;hears 1;worth 1;) = 2
                find(0, 0, 201)
                force(1)
                beep(0) = 0
                force(2)
                beep(0) = NONE
                """);
        c.run("hears 99, 100, 9999: HEARD 99 is as loud", """
                read(digs 1;hears 98;worth 1;) = 1
                read(digs 1;hears 99;worth 1;) = 2
                read(digs 1;hears 100;worth 1;) = 3
                read(digs 1;hears 9999;worth 1;) = 4
                find(0, 0, 8)
                set(0, 0, 2)
                told(0, 7) = 99
                force(1)
                beep(0) = 0
                force(2)
                beep(0) = 0
                force(3)
                beep(0) = 0
                force(4)
                beep(0) = 0
                set(1, 0, 4)
                set(0, 0, 0)
                set(3, 0, 1)
                set(4, 0, 8)
                told(0, 7) = 94
                beep(0) = NONE
                """);
        c.run("hears 99, 100: HEARD 98 isn't", """
                read(digs 1;hears 98;worth 1;) = 1
                read(digs 1;hears 99;worth 1;) = 2
                read(digs 1;hears 100;worth 1;) = 3
                find(1, 0, 8)
                set(1, 0, 2)
                told(0, 7) = 98
                force(1)
                beep(0) = 0
                force(2)
                beep(0) = NONE
                force(3)
                beep(0) = NONE
                """);
        c.run("hears wraps ahead of its bound", """
                read(digs 1;hears 9999 * 9999 * 43;worth 1;) = 1
                force(1)
                find(0, 0, 201)
                beep(0) = NONE              # 4299140043 is 4172747, and so 99
                read(digs 1;hears 9999 * 9999 * 22;worth 1;) = 2
                force(2)
                beep(0) = 0                 # 2199560022 is below 0, and so 0
                """);
    }

    private static void worth() {
        String[] said = {"-9999", "-1", "0", "1", "98", "99", "100", "9999"};
        int[] due = {0, 0, 0, 1, 98, 99, 99, 99};
        for (int i = 0; i < said.length; i++) {
            c.run("worth (0 .. 99, else the bound)", "read(digs 1;hears 0;worth " + said[i] + ";) = 1\n"
                    + "force(1)\nfind(0, 0, 11)\ntold(0, 9) = " + due[i] + "\nfound(1, 1) = " + due[i]
                    + "\nfound(1, 0) = 1\nstrips(6, 1) = " + due[i] + "\n");
        }
        c.run("each one's own bound, not the sum's", """
                read(digs 1;hears 0;worth 50 - 100 * x;) = 1
                force(1)
                find(0, 0, 11)
                find(0, 1, 11)
                find(0, 0, 11)
                found(1, 1) = 100
                """);
    }

    private static void digs() {
        String[] said = {"0", "1", "-1", "9999", "1 - 1", LEAST, LEAST + "*2"};
        int[] due = {0, 1, 1, 1, 0, 1, 0};
        for (int i = 0; i < said.length; i++) {
            c.run("digs: whether one digs for it (not 0)", "read(digs " + said[i] + ";hears 0;worth 1;) = 1\n"
                    + "force(1)\nfind(0, 0, 11)\nfound(1, 0) = " + due[i] + "\nleft(1) = " + (1 - due[i]) + "\n");
        }
    }

    private static void names() {
        value("tone", "67");
        value("loud", "96");
        value("wet", "4");
        value("plate", "8");
        value("y", "2");
        value("x", "5");
        c.run("loud (as it is HEARD)", """
                read(digs loud = 19;hears loud - 19;worth loud;) = 1
                force(1)
                find(0, 0, 12)
                found(1, 0) = 0
                find(2, 0, 201)
                told(0, 7) = 19
                found(1, 0) = 1
                found(1, 1) = 19
                """);
        c.run("wet: WET; plate: PLATE; y, x: of its CELL, as they are then", """
                read(digs 1;hears 0;worth wet * 10 + plate;) = 1
                read(digs 1;hears 0;worth y * 10 + x;) = 2
                find(0, 13, 11)
                force(1)
                told(0, 9) = 3
                set(0, 0, 9)
                set(1, 0, 9)
                told(0, 9) = 99
                set(1, 0, 1)
                told(0, 9) = 91
                force(2)
                told(0, 9) = 15
                set(2, 0, 47)
                told(0, 9) = 57
                plough()
                set(2, 0, 0)
                told(0, 9) = 0
                plough()
                told(0, 9) = 0
                """);
    }

    private static void firstText() {
        c.run("hears 10: HEARD 10 is as loud, 9 isn't", """
                set(1, 0, 2)
                set(0, 0, 1)
                find(0, 0, 21)
                told(0, 7) = 10
                beep(0) = 0
                set(1, 0, 1)
                find(0, 1, 13)
                set(0, 0, 2)
                told(1, 7) = 33
                set(4, 1, 1)
                set(3, 1, 2)
                set(0, 0, 3)
                told(1, 7) = 9
                beep(1) = NONE
                """);
        c.run("digs 30 < tone: IRON, FIND are 19 at most, LEAD is 41 at least", """
                find(0, 0, 9)
                find(2, 8, 9)
                find(4, 16, 1)
                find(3, 24, 1)
                find(1, 32, 1)
                find(5, 40, 1)
                found(1, 0) = 0
                found(2, 0) = 0
                found(4, 0) = 1
                found(8, 0) = 1
                found(16, 0) = 1
                found(32, 0) = 1
                """);
        c.run("worth tone - 10, 0 at least", """
                find(0, 0, 11)
                find(2, 8, 19)
                find(5, 16, 19)
                told(0, 9) = 1
                told(1, 9) = 0          # TONE 9
                told(2, 9) = 68
                """);
    }

    private static void forces() {
        c.run("A TEXT is THE RULE: which was", """
                force(-1) = BAD
                force(1) = BAD
                force(6) = BAD
                force(MIN) = BAD
                force(MAX) = BAD
                force(0) = 0
                read(digs 1;hears 0;worth 7;) = 1
                count(8) = 0
                force(2) = BAD
                force(1) = 0
                count(8) = 1
                force(1) = 1
                force(2) = BAD
                count(8) = 1
                force(0) = 1
                count(8) = 0
                """);
        c.run("the last of 6 TEXTS", """
                read(digs1;hears1;worth1;)
                read(digs1;hears1;worth1;)
                read(digs1;hears1;worth1;)
                read(digs1;hears1;worth1;)
                force(5) = BAD
                read(digs1;hears1;worth1;) = 5
                force(5) = 0
                force(6) = BAD
                force(5) = 5
                """);
    }
}
