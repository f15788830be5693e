/** Promises 5 to 7: feed, text, force. */
public final class TextTest {
    private static final int BAD = FieldBeeps.BAD;
    private static final int FULL = FieldBeeps.FULL;
    private static final String REST = "hears 0;worth 1;";
    private static final Checks c = new Checks();

    public static void main(String[] args) {
        feeds();
        faults();
        deepFaults();
        strangeBytes();
        readable();
        tapeAfterText();
        fullTexts();
        values();
        wraps();
        names();
        bounds();
        forces();
        firstText();
        c.end();
    }

    private static void feeds() {
        FieldBeeps x = new FieldBeeps();
        c.due("feed(-1)", x.feed(-1), BAD);
        c.due("feed(256)", x.feed(256), BAD);
        c.due("feed(MIN)", x.feed(Integer.MIN_VALUE), BAD);
        c.due("feed(0)", x.feed(0), 1);
        c.due("feed(255)", x.feed(255), 2);
        for (int i = 3; i <= 160; i++) {
            c.due("feed " + i, x.feed(65), i);
        }
        c.due("the 161st", x.feed(65), FULL);
        c.due("BAD ahead of FULL", x.feed(256), BAD);
        c.due("count(7)", x.count(7), 160);
    }

    /** The ^ stands ahead of the FAULT, and isn't fed. */
    private static void fault(String marked) {
        int place = marked.indexOf('^');
        String text = marked.substring(0, place) + marked.substring(place + 1);
        FieldBeeps x = new FieldBeeps();
        c.due(marked, Checks.read(x, text), -100 - place);
        c.due(marked + ": TEXTS", x.count(6), 1);
        c.due(marked + ": THE TAPE", x.count(7), 0);
    }

    private static void readable(String text) {
        FieldBeeps x = new FieldBeeps();
        c.due(text, Checks.read(x, text), 1);
        c.due(text + ": TEXTS", x.count(6), 2);
        c.due(text + ": THE TAPE", x.count(7), 0);
    }

    private static void faults() {
        String[] marked = {
            "^", "   ^", "\n^", "digs^", "digs ^", "digs 1^", "digs 1;^", "digs 1;hears^", "digs 1;hears 1^",
            "digs 1;hears 1;worth 1^", "digs 1;hears 1;worth 1  ^", "digs 1;hears 1;worth^",
            "^hears 1;digs 1;worth 1;", "^worth 1;", "^1", "^;", "^x", "^digsx 1;", "^dig 1;", "^Digs 1;",
            "digs ^;hears 1;worth 1;", "digs 1 ^1;", "digs 1^hears 1;", "digs 1;^worth 1;", "digs 1;^digs 1;",
            "digs 1;hears 1;^hears 1;", "digs 1;hears 1;worth 1;^x", "digs 1;hears 1;worth 1;^;",
            "digs 1;hears 1;worth 1; ^digs 1;", "digs ^12345;", "digs ^00001;", "digs x ^12345;",
            "digs 1;hears 1;worth 1;^12345", "digs ^123456789012345678901234567890;",
            "digs 1<2^<3;", "digs 1=2^=3;", "digs 1<2^=3;", "digs 1+^not 1;", "digs 1<^not 1;", "digs 1*^not 1;",
            "digs -^not 1;", "digs 1 or ^or 1;", "digs 1 and ^and 1;", "digs ^and 1;", "digs ^or 1;",
            "digs 1 ^not 1;", "digs ^+1;", "digs ^*1;", "digs ^<1;", "digs ^=1;", "digs 1+^+1;", "digs 1*^*1;",
            "digs 1<^<1;", "digs (^)", "digs (1^;", "digs (1^", "digs 1^);", "digs ((1)^;", "digs (1)^(1);",
            "digs x^(1);", "digs ^tones;", "digs ^ton;", "digs ^digs;", "digs ^hears;", "digs ^worth 1;",
            "digs 1 ^xor 2;", "digs ^notx;", "digs 1 ^andx 1;", "digs x ^y;", "digs x ^5;", "digs 5^x;", "digs 1 +^;",
            "digs not ^;", "digs - ^;", "digs 1 < ^;", "digs 1 -^", "digs not^", "digs (^", "digs ^yx;", "digs ^e;",
            "digs tone^1;", "digs ^to ne;", "digs ^tonez;", "digs ^xa;", "digs ^zx;", "digs x ^z;",
        };
        for (String m : marked) {
            fault(m);
        }
    }

    private static void deepFaults() {
        fault("digs (((((^(1))))));");
        fault("digs not not not not not ^not 1;");
        fault("digs -----^-1;");
        fault("digs 1------^-1;");
        fault("digs (not (-(1-^(1))));");
        fault("digs ((((not ^(1)))));");
        fault("digs (((((1<^-1)))));");
        fault("digs not(-(-^-1)));");
        fault("digs 1;hears (((((1)))))+(((((^(");
        readable("digs (((((1)))));" + REST);
        readable("digs not not not not not 1;" + REST);
        readable("digs -----1;" + REST);
        readable("digs 1------1;" + REST);
        readable("digs (((((1-1+1*1<1 and 1 or 1)))));" + REST);
        readable("digs (1)+(1)+(1)+(1)+(1)+(1)+(1);" + REST);
        readable("digs not 1 and not 1 and not 1 and not 1 and not 1 or not 1 or not 1;" + REST);
        readable("digs -1*-1*-1--1--1+-1<-1;" + REST);
        readable("digs ((((not 1 and not 1 or -1*-1))));" + REST);
        readable("digs not(-(-1*-1));" + REST);
        fault("digs not(-(-^(1)*-(1)));");
    }

    private static void strangeBytes() {
        for (int letter = 0; letter < 256; letter++) {
            boolean known = letter == 32 || letter == 10 || letter >= '0' && letter <= '9'
                    || letter >= 'a' && letter <= 'z' || "();+-*<=".indexOf(letter) >= 0;
            if (!known && letter != '^') {
                fault("digs 1 ^" + (char) letter);
                fault("digs ^" + (char) letter);
                fault("digs 1;hears 1;worth 1;^" + (char) letter);
            }
        }
        c.due("a ^ itself", Checks.read(new FieldBeeps(), "digs ^"), -105);
    }

    private static void readable() {
        readable("digs1;hears1;worth1;");
        readable(" \n digs\n1 ; hears 1;worth\n\n1;\n ");
        readable("digs(1);hears-1;worth(x);");
        readable("digs 9999;hears 0000;worth 0;");
        readable("digs tone;hears loud;worth wet;");
        readable("digs plate;hears y;worth x;");
        readable("digs 5and 6or 7;hears not(1);worth 1=1;");
        StringBuilder all = new StringBuilder("digs 1;" + REST);
        while (all.length() < 160) {
            all.append(all.length() % 2 == 0 ? ' ' : '\n');
        }
        readable(all.toString());
        StringBuilder sum = new StringBuilder("digs1");
        while (sum.length() < 145) {
            sum.append("+1");
        }
        readable(sum + ";hears1;worth1;");
    }

    private static void tapeAfterText() {
        FieldBeeps x = new FieldBeeps();
        c.due("a fault", Checks.read(x, "digs ("), -106);
        c.due("the tape is new then", Checks.read(x, "digs 1;" + REST), 1);
        c.due("and then", Checks.read(x, "digs 2;" + REST), 2);
        c.due("an empty one", x.text(), -100);
        c.due("a number", Checks.read(x, "digs 12345"), -105);
        c.due("a shorter one: nothing of the old tape is read", Checks.read(x, "digs 1"), -106);
        c.due("a word", Checks.read(x, "digs tonexyz"), -105);
        c.due("a shorter one", Checks.read(x, "digs tone"), -109);
        c.due("blanks", Checks.read(x, "digs      "), -110);
        c.due("less blanks", Checks.read(x, "digs  "), -106);
        c.due("count(6)", x.count(6), 3);
        c.due("THE RULE stays", x.count(8), 0);
    }

    private static void fullTexts() {
        FieldBeeps x = new FieldBeeps();
        for (int i = 1; i < 6; i++) {
            c.due("text " + i, Checks.read(x, "digs 1;hears 0;worth " + i + ";"), i);
        }
        c.due("a seventh", Checks.read(x, "digs 1;" + REST), FULL);
        c.due("THE TAPE stays", x.count(7), 23);
        c.due("FULL ahead of a fault", Checks.read(x, "(("), FULL);
        c.due("THE TAPE stays again", x.count(7), 25);
        c.due("count(6)", x.count(6), 6);
        x.find(0, 0, 11);
        for (int i = 1; i < 6; i++) {
            x.force(i);
            c.due("each text is its own: " + i, x.told(0, 9), i);
        }
        x.force(0);
        c.due("and TEXT 0", x.told(0, 9), 1);
    }

    /** As an E, any int: the numbers of a text are 4 digits at most. */
    private static String number(int v) {
        return "((" + (v >>> 26) + "*8192+" + (v >>> 13 & 8191) + ")*8192+" + (v & 8191) + ")";
    }

    private static void value(String e, int want) {
        FieldBeeps x = Checks.ruled("digs 1;hears 0;worth " + number(want) + "=(" + e + ");");
        x.find(1, 21, 57);
        x.set(0, 0, 4);
        x.set(1, 0, 8);
        c.due(e + " is " + want, x.told(0, 9), 1);
    }

    private static void values() {
        value("7", 7);
        value("0007", 7);
        value("9999", 9999);
        value("2+3*4", 14);
        value("2*3+4", 10);
        value("(2+3)*4", 20);
        value("10-3-2", 5);
        value("10-(3-2)", 9);
        value("10-3+2", 9);
        value("-2*3", -6);
        value("-2+3", 1);
        value("2--3", 5);
        value("2*-3", -6);
        value("--5", 5);
        value("1 or 0 and 0", 1);
        value("(1 or 0) and 0", 0);
        value("not 0 and 0", 0);
        value("not (0 and 0)", 1);
        value("not 1=2", 1);
        value("(not 1)=2", 0);
        value("not 5", 0);
        value("not 0", 1);
        value("not not 5", 1);
        value("not -1", 0);
        value("5 or 0", 1);
        value("0 or 0", 0);
        value("0 or 0 or -3", 1);
        value("3 and 2", 1);
        value("4 and 8", 1);
        value("3 and 0", 0);
        value("1 and 1 and 0", 0);
        value("1<2", 1);
        value("2<2", 0);
        value("3<2", 0);
        value("-1<0", 1);
        value("0<-1", 0);
        value("2=2", 1);
        value("2=3", 0);
        value("1+1=2", 1);
        value("1=1+1", 0);
        value("1<1*2", 1);
        value("(1<2)+(3<4)", 2);
        value("1+(1 or 1)", 2);
        value("1<2 and 2<3 or 0", 1);
    }

    private static void wraps() {
        value("9999*9999*9999", 9999 * 9999 * 9999);
        value("-" + number(Integer.MIN_VALUE), Integer.MIN_VALUE);
        value(number(Integer.MAX_VALUE) + "+1", Integer.MIN_VALUE);
        value(number(Integer.MIN_VALUE) + "-1", Integer.MAX_VALUE);
        value(number(Integer.MIN_VALUE) + "<" + number(Integer.MAX_VALUE), 1);
        value("0-" + number(12345678), -12345678);
    }

    private static void names() {
        value("tone", 67);
        value("loud", 96);
        value("wet", 4);
        value("plate", 8);
        value("y", 2);
        value("x", 5);
        value("y*8+x", 21);
        value("tone-loud", -29);
        value("wet*plate<tone", 1);
    }

    private static void bounds() {
        FieldBeeps x = Checks.ruled("digs 1;hears 0-5;worth 100;");
        x.find(0, 0, 201);
        c.due("hears is 0 at least, and what is HEARD 0 is as loud", x.beep(0), 0);
        c.due("worth is 99 at most", x.told(0, 9), 99);
        x = Checks.ruled("digs 1;hears 9999;worth -1;");
        x.find(0, 0, 9);
        x.set(1, 0, 2);
        c.due("LOUD 100", x.told(0, 6), 100);
        c.due("hears is 99 at most", x.beep(0), 0);
        x.set(4, 0, 8);
        x.set(1, 0, 3);
        c.due("LOUD 95", x.told(0, 6), 95);
        c.due("which isn't heard", x.beep(0), -1);
        c.due("worth is 0 at least", x.told(0, 9), 0);
        x = Checks.ruled("digs 1;hears loud = 98;worth 99;");
        x.find(0, 0, 8);
        c.due("worth 99", x.told(0, 9), 99);
        x = Checks.ruled("digs 0-1;hears 0;worth 1;");
        x.find(0, 0, 8);
        c.due("what is below 0 is true, too", x.found(63, 0), 1);
    }

    private static void forces() {
        FieldBeeps x = new FieldBeeps();
        c.due("force(1), none such", x.force(1), BAD);
        c.due("force(-1)", x.force(-1), BAD);
        Checks.read(x, "digs 1;hears 0;worth 7;");
        c.due("to read isn't to force", x.count(8), 0);
        c.due("force(1)", x.force(1), 0);
        c.due("count(8)", x.count(8), 1);
        c.due("force(1) again", x.force(1), 1);
        c.due("force(2)", x.force(2), BAD);
        c.due("force(6)", x.force(6), BAD);
        c.due("force(MAX)", x.force(Integer.MAX_VALUE), BAD);
        c.due("a refused one changes nothing", x.count(8), 1);
        x.find(2, 0, 11);
        c.due("found by it", x.found(1, 1), 7);
        c.due("force(0)", x.force(0), 1);
        c.due("found by TEXT 0", x.found(1, 1), 0);
    }

    /** TEXT 0 is as the document writes it. */
    private static void firstText() {
        FieldBeeps x = new FieldBeeps();
        FieldBeeps y = Checks.ruled("digs 30 < tone ; hears 10 ; worth tone - 10 ;");
        for (int kind = 0; kind < 6; kind++) {
            for (int size = 1; size < 10; size++) {
                for (int depth = 0; depth < 21; depth += 3) {
                    FieldBeeps a = new FieldBeeps();
                    a.find(kind, 3, depth * 10 + size);
                    x.find(kind, 3, depth * 10 + size);
                    FieldBeeps b = Checks.ruled("digs 30 < tone ; hears 10 ; worth tone - 10 ;");
                    b.find(kind, 3, depth * 10 + size);
                    String of = kind + " of " + size + " at " + depth;
                    c.due("beep: " + of, a.beep(3), b.beep(3));
                    c.due("worth: " + of, a.told(0, 9), b.told(0, 9));
                    c.due("found: " + of, a.found(63, 0), b.found(63, 0));
                }
            }
        }
        c.due("worth by TEXT 0", x.told(0, 9), 1);
        y.find(2, 0, 1);
        c.due("worth below 0 by TEXT 0", y.told(0, 9), 0);
    }
}
