import java.util.ArrayList;
import java.util.Arrays;
import java.util.HashMap;
import java.util.List;
import java.util.Map;
import java.util.function.IntBinaryOperator;

/**
 * The document once more, written another way (objects of kinds, trees, exceptions, copies), so
 * that ModelTest can compare answers of the class with it over random runs.
 */
final class Model {
    static final int NONE = -1;
    static final int BAD = -2;
    static final int STATE = -3;
    static final int FULL = -4;
    static final long NO = -(1L << 62);

    /** A host's exception stands for the refusal that it becomes. */
    static final class Refusal extends RuntimeException {
        private static final long serialVersionUID = 1;
        final int code;

        Refusal(int code) {
            this.code = code;
        }
    }

    static void need(boolean holds, int code) {
        if (!holds) {
            throw new Refusal(code);
        }
    }

    static class Find {
        int y;
        int x;
        int depth;
        int size;
        boolean taken;

        int kind() {
            return 0;
        }

        int tone() {
            return 10 + size;
        }

        int rawLoud(int d, int p, int w) {
            return 10 * size + 5 * p + 2 * w - 6 * d;
        }

        int drags(int d) {
            return 1;
        }

        static Find of(int kind) {
            switch (kind) {
                case 0:
                    return new Find();
                case 1:
                    return new Silver();
                case 2:
                    return new Iron();
                case 3:
                    return new Foil();
                case 4:
                    return new Lead();
                case 5:
                    return new Hoard();
                default:
                    throw new Refusal(BAD);
            }
        }

        Find copy() {
            Find f = of(kind());
            f.y = y;
            f.x = x;
            f.depth = depth;
            f.size = size;
            f.taken = taken;
            return f;
        }

        void place(int cell) {
            y = cell / 8;
            x = cell % 8;
        }

        int cell() {
            return 8 * y + x;
        }
    }

    static class Silver extends Find {
        @Override
        int kind() {
            return 1;
        }

        @Override
        int tone() {
            return super.tone() + 50;
        }

        @Override
        int rawLoud(int d, int p, int w) {
            return super.rawLoud(d, p, w) + 8;
        }
    }

    static final class Iron extends Find {
        @Override
        int kind() {
            return 2;
        }

        @Override
        int tone() {
            return super.tone() / 2;
        }

        @Override
        int rawLoud(int d, int p, int w) {
            return super.rawLoud(d, p, w) - 5 * w;
        }

        @Override
        int drags(int d) {
            return 0;
        }
    }

    static final class Foil extends Silver {
        @Override
        int kind() {
            return 3;
        }

        @Override
        int tone() {
            return super.tone() - size;
        }

        @Override
        int rawLoud(int d, int p, int w) {
            return super.rawLoud(d, p, w) / 2;
        }

        @Override
        int drags(int d) {
            return super.drags(d) + 1;
        }
    }

    static final class Lead extends Find {
        @Override
        int kind() {
            return 4;
        }

        @Override
        int tone() {
            return super.tone() + 30;
        }

        @Override
        int drags(int d) {
            return size < 5 ? 1 : 0;
        }
    }

    static final class Hoard extends Silver {
        @Override
        int kind() {
            return 5;
        }

        @Override
        int tone() {
            return super.tone() + (size > 4 ? 9 : 0);
        }

        @Override
        int rawLoud(int d, int p, int w) {
            return 2 * super.rawLoud(d, p, w);
        }

        @Override
        int drags(int d) {
            return d < 10 ? super.drags(d) : 0;
        }
    }

    interface E {
        int value(Map<String, Integer> names);
    }

    static final class Token {
        final String text;
        final int place;

        Token(String text, int place) {
            this.text = text;
            this.place = place;
        }
    }

    static final class Fault extends Exception {
        private static final long serialVersionUID = 1;
        final int place;

        Fault(int place) {
            this.place = place;
        }
    }

    /** Reads a TEXT; a token of text "?" can stand nowhere. */
    static final class Parser {
        static final List<String> NAMES = List.of("tone", "loud", "wet", "plate", "y", "x");
        static final List<String> KEYS = List.of("digs", "hears", "worth", "or", "and", "not");
        final List<Token> tokens = new ArrayList<>();
        int at = 0;
        int open = 0;

        Parser(String s) {
            int i = 0;
            while (i < s.length()) {
                int j = i;
                char ch = s.charAt(i);
                if (ch == ' ' || ch == '\n') {
                    i++;
                    continue;
                }
                String class_ = ch >= 'a' && ch <= 'z' ? "[a-z]" : ch >= '0' && ch <= '9' ? "[0-9]" : "";
                do {
                    j++;
                } while (!class_.isEmpty() && j < s.length() && s.substring(j, j + 1).matches(class_));
                String word = s.substring(i, j);
                boolean good = class_.isEmpty() ? "();+-*<=".contains(word)
                        : class_.equals("[0-9]") ? word.length() <= 4 : NAMES.contains(word) || KEYS.contains(word);
                tokens.add(new Token(good ? word : "?", i));
                i = j;
            }
            tokens.add(new Token("", s.length()));
        }

        boolean see(String... any) {
            return Arrays.asList(any).contains(tokens.get(at).text);
        }

        String take() {
            return tokens.get(at++).text;
        }

        void must(String word) throws Fault {
            if (!see(word)) {
                throw new Fault(tokens.get(at).place);
            }
            at++;
        }

        void opened() throws Fault {
            if (open == 5) {
                throw new Fault(tokens.get(at).place);
            }
            open++;
            at++;
        }

        E[] text() throws Fault {
            E[] parts = new E[3];
            for (int i = 0; i < 3; i++) {
                must(KEYS.get(i));
                parts[i] = either();
                must(";");
            }
            must("");
            return parts;
        }

        static E join(E a, E b, IntBinaryOperator how) {
            return names -> how.applyAsInt(a.value(names), b.value(names));
        }

        E either() throws Fault {
            E e = both();
            while (see("or")) {
                at++;
                e = join(e, both(), (a, b) -> (a != 0) | (b != 0) ? 1 : 0);
            }
            return e;
        }

        E both() throws Fault {
            E e = denial();
            while (see("and")) {
                at++;
                e = join(e, denial(), (a, b) -> (a != 0) & (b != 0) ? 1 : 0);
            }
            return e;
        }

        E denial() throws Fault {
            if (see("not")) {
                opened();
                E e = denial();
                open--;
                return names -> e.value(names) == 0 ? 1 : 0;
            }
            E e = sum();
            if (see("<")) {
                at++;
                return join(e, sum(), (a, b) -> a < b ? 1 : 0);
            }
            if (see("=")) {
                at++;
                return join(e, sum(), (a, b) -> a == b ? 1 : 0);
            }
            return e;
        }

        E sum() throws Fault {
            E e = term();
            while (see("+", "-")) {
                boolean plus = take().equals("+");
                e = join(e, term(), (a, b) -> (int) (plus ? (long) a + b : (long) a - b));
            }
            return e;
        }

        E term() throws Fault {
            E e = one();
            while (see("*")) {
                at++;
                e = join(e, one(), (a, b) -> (int) ((long) a * b));
            }
            return e;
        }

        E one() throws Fault {
            String word = tokens.get(at).text;
            if (word.matches("[0-9]+")) {
                at++;
                return names -> Integer.parseInt(word);
            }
            if (NAMES.contains(word)) {
                at++;
                return names -> names.get(word);
            }
            if (word.equals("-")) {
                opened();
                E e = one();
                open--;
                return names -> (int) -(long) e.value(names);
            }
            if (word.equals("(")) {
                opened();
                E e = either();
                must(")");
                open--;
                return e;
            }
            throw new Fault(tokens.get(at).place);
        }
    }

    /** All that a what-if must not change. */
    static final class World {
        List<Find> finds = new ArrayList<>();
        int wet = 0;
        int plate = 3;
        int year = 0;
        int walked = 0;
        int rule = 0;

        World copy() {
            World w = new World();
            for (Find f : finds) {
                w.finds.add(f.copy());
            }
            w.wet = wet;
            w.plate = plate;
            w.year = year;
            w.walked = walked;
            w.rule = rule;
            return w;
        }
    }

    World now = new World();
    World image = null;
    final List<E[]> texts = new ArrayList<>();
    final StringBuilder tape = new StringBuilder();
    final Object[] sheets = new Object[4];

    Model() {
        try {
            texts.add(new Parser("digs 30 < tone ; hears 10 ; worth tone - 10 ;").text());
        } catch (Fault f) {
            throw new IllegalStateException(f);
        }
    }

    static int within(int v, int low, int high) {
        need(low <= v && v <= high, BAD);
        return v;
    }

    Find get(int find, int code) {
        need(find >= 0 && find < now.finds.size(), code);
        return now.finds.get(find);
    }

    static int loud(World w, Find f) {
        return Math.max(0, f.rawLoud(f.depth, w.plate, w.wet));
    }

    static int heard(World w, Find f) {
        if (f.taken) {
            return 0;
        }
        long nails = w.finds.stream().filter(o -> o != f && o instanceof Iron && !o.taken && o.cell() == f.cell()).count();
        return Math.max(0, loud(w, f) - 10 * (int) nails);
    }

    int part(World w, int part, Find f, int loud) {
        Map<String, Integer> names = new HashMap<>();
        names.put("tone", f.tone());
        names.put("loud", loud);
        names.put("wet", w.wet);
        names.put("plate", w.plate);
        names.put("y", f.y);
        names.put("x", f.x);
        int v = texts.get(w.rule)[part].value(names);
        return part == 0 ? v : Math.max(0, Math.min(99, v));
    }

    int beep(World w, int cell) {
        int best = NONE;
        for (int i = 0; i < w.finds.size(); i++) {
            Find f = w.finds.get(i);
            if (f.taken || f.cell() != cell || heard(w, f) < part(w, 1, f, heard(w, f))) {
                continue;
            }
            if (best == NONE || heard(w, f) > heard(w, w.finds.get(best))) {
                best = i;
            }
        }
        return best;
    }

    /** How many, and worth. */
    int[] walk(World w, int strips) {
        int[] sum = new int[2];
        for (int y = 0; y < 6; y++) {
            for (int i = 0; i < 8 && (strips & 1 << y) != 0; i++) {
                int cell = 8 * y + (y % 2 == 0 ? i : 7 - i);
                while (true) {
                    int b = beep(w, cell);
                    if (b == NONE) {
                        break;
                    }
                    Find f = w.finds.get(b);
                    if (f.depth > 10 || part(w, 0, f, heard(w, f)) == 0) {
                        break;
                    }
                    sum[0]++;
                    sum[1] += part(w, 2, f, heard(w, f));
                    f.taken = true;
                }
            }
        }
        return sum;
    }

    static void plough(World w) {
        for (Find f : w.finds) {
            if (!f.taken) {
                int by = f.drags(f.depth);
                f.x = Math.max(0, Math.min(7, f.x + (w.year % 2 == 0 ? by : -by)));
                f.depth = f.depth > 12 ? f.depth - 1 : 12 - f.depth;
            }
        }
        w.year = w.year == 99 ? 99 : w.year + 1;
    }

    int lying() {
        return (int) now.finds.stream().filter(f -> !f.taken).count();
    }

    int find(int kind, int cell, int what) {
        Find f = Find.of(kind);
        within(cell, 0, 47);
        within(what, 0, 209);
        within(what % 10, 1, 9);
        need(now.finds.size() < 12, FULL);
        f.place(cell);
        f.depth = what / 10;
        f.size = what % 10;
        now.finds.add(f);
        return now.finds.size() - 1;
    }

    int set(int what, int of, int v) {
        within(what, 0, 4);
        int[][] bounds = {{0, 9}, {1, 9}, {0, 47}, {0, 20}, {1, 9}};
        within(v, bounds[what][0], bounds[what][1]);
        int was;
        if (what == 0) {
            was = now.wet;
            now.wet = v;
            return was;
        }
        if (what == 1) {
            was = now.plate;
            now.plate = v;
            return was;
        }
        Find f = get(of, BAD);
        need(!f.taken, STATE);
        was = what == 2 ? f.cell() : what == 3 ? f.depth : f.size;
        if (what == 2) {
            f.place(v);
        } else if (what == 3) {
            f.depth = v;
        } else {
            f.size = v;
        }
        return was;
    }

    int told(int find, int what) {
        Find f = get(find, BAD);
        within(what, 0, 9);
        return new int[] {f.kind(), f.cell(), f.depth, f.size, f.taken ? 1 : 0, f.tone(), loud(now, f),
            heard(now, f), f.drags(f.depth), part(now, 2, f, loud(now, f))}[what];
    }

    int feed(int letter) {
        within(letter, 0, 255);
        need(tape.length() < 160, FULL);
        tape.append((char) letter);
        return tape.length();
    }

    int text() {
        need(texts.size() < 6, FULL);
        String s = tape.toString();
        tape.setLength(0);
        try {
            texts.add(new Parser(s).text());
            return texts.size() - 1;
        } catch (Fault f) {
            return -100 - f.place;
        }
    }

    int force(int text) {
        within(text, 0, texts.size() - 1);
        int was = now.rule;
        now.rule = text;
        return was;
    }

    int beep(int cell) {
        return beep(now, within(cell, 0, 47));
    }

    int walk(int strip) {
        within(strip, 0, 5);
        now.walked |= 1 << strip;
        return walk(now, 1 << strip)[0];
    }

    int plough() {
        plough(now);
        return now.year;
    }

    int found(int strips, int what) {
        within(strips, 0, 63);
        within(what, 0, 1);
        return walk(now.copy(), strips)[what];
    }

    int years(int n) {
        within(n, 0, 20);
        World w = now.copy();
        int sum = 0;
        while (n-- > 0) {
            sum += walk(w, 63)[0];
            plough(w);
        }
        return sum;
    }

    int soonest(int what) {
        within(what, 0, 1);
        int[] best = {0, -1};
        for (int n = 0; n <= 20; n++) {
            World w = now.copy();
            for (int i = 0; i < n; i++) {
                plough(w);
            }
            int number = walk(w, 63)[0];
            if (number > best[1]) {
                best = new int[] {n, number};
            }
        }
        return best[what];
    }

    int strips(int k, int what) {
        within(k, 0, 6);
        within(what, 0, 1);
        int[] alone = new int[6];
        for (int y = 0; y < 6; y++) {
            alone[y] = walk(now.copy(), 1 << y)[1];
        }
        int[] best = {0, -1};
        for (int bits = 0; bits < 64; bits++) {
            int number = 0;
            int worth = 0;
            for (int y = 0; y < 6; y++) {
                if ((bits & 1 << y) != 0) {
                    number++;
                    worth += alone[y];
                }
            }
            if (number == k && worth > best[1]) {
                best = new int[] {bits, worth};
            }
        }
        return best[what];
    }

    int better() {
        World w = now.copy();
        w.plate = now.plate == 9 ? 9 : now.plate + 1;
        return walk(w, 63)[0] - walk(now.copy(), 63)[0];
    }

    int order(int a, int b) {
        within(a, 1, 9);
        within(b, 1, 9);
        World w = now.copy();
        w.plate = a;
        walk(w, 63);
        w.plate = b;
        return walk(w, 63)[0];
    }

    int pot() {
        int best = NONE;
        int least = Integer.MAX_VALUE;
        for (int cell = 0; cell < 48 && lying() < now.finds.size(); cell++) {
            int sum = 0;
            for (Find f : now.finds) {
                sum += f.taken ? 3 * Math.abs(f.y - cell / 8) + Math.abs(f.x - cell % 8) : 0;
            }
            if (sum < least) {
                least = sum;
                best = cell;
            }
        }
        return best;
    }

    int came(int find, int n) {
        Find f = get(find, BAD);
        within(n, 0, 20);
        int d = f.depth;
        int x = f.x;
        for (int i = 1; i <= n; i++) {
            d = d <= 12 ? 12 - d : Math.min(20, d + 1);
            boolean even = Math.floorMod(now.year - i, 2) == 0;
            x = even ? x - f.drags(d) : x + f.drags(d);
        }
        return 8 * f.y + Math.max(0, Math.min(7, x));
    }

    int dots(int cell) {
        within(cell, 0, 47);
        return (int) now.finds.stream().filter(f -> f.taken && f.cell() == cell).count();
    }

    int thick() {
        int best = NONE;
        for (int cell = 47; cell >= 0; cell--) {
            if (dots(cell) > 0 && (best == NONE || dots(cell) >= dots(best))) {
                best = cell;
            }
        }
        return best;
    }

    Object sheetAt(int sheet) {
        return sheets[within(sheet, 0, 3)];
    }

    static int size(Object row) {
        return row instanceof byte[] ? ((byte[]) row).length
                : row instanceof short[] ? ((short[]) row).length : ((int[]) row).length;
    }

    static int item(Object row, int i) {
        need(i >= 0 && i < size(row), -12);
        return row instanceof byte[] ? ((byte[]) row)[i] : row instanceof short[] ? ((short[]) row)[i] : ((int[]) row)[i];
    }

    int judge(int sheet, int what) {
        Object row = sheetAt(sheet);
        within(what, 0, 1);
        need(row != null, -11);
        List<Integer> slips = new ArrayList<>();
        for (int i = 0; i < size(row); i++) {
            if (item(row, i) != dots(i)) {
                slips.add(i);
            }
        }
        return what == 1 ? slips.size() : slips.isEmpty() ? NONE : slips.get(0);
    }

    int unseen() {
        int bits = 0;
        for (Find f : now.finds) {
            bits |= f.taken || (now.walked & 1 << f.y) != 0 ? 0 : 1 << f.y;
        }
        return bits;
    }

    int left(int what) {
        within(what, 0, 1);
        int never = 0;
        for (int i = 0; i < now.finds.size(); i++) {
            boolean ever = now.finds.get(i).taken;
            for (int p = 1; p <= 9; p++) {
                World w = now.copy();
                w.plate = p;
                Find f = w.finds.get(i);
                int heard = heard(w, f);
                ever |= heard >= part(w, 1, f, heard) && part(w, 0, f, heard) != 0;
            }
            never += ever ? 0 : 1;
        }
        return what == 0 ? lying() : never;
    }

    int drawn(int seed) {
        World w = now.copy();
        int z = seed;
        for (Find f : w.finds) {
            if (!f.taken) {
                z = (int) (z * 1103515245L + 12345L);
                f.place((int) (((z & 0xffffffffL) >> 9) % 48));
                f.depth = (int) (((z & 0xffffffffL) >> 16) % 21);
            }
        }
        return walk(w, 63)[0];
    }

    long odds(int seed, int n, int least, int part) {
        if (n < 1 || n > 20 || least < 0 || least > 12 || part < 0 || part > 1) {
            return NO;
        }
        int above = 0;
        for (int i = 0; i < n; i++) {
            above += drawn(seed + i) >= least ? 1 : 0;
        }
        int g = java.math.BigInteger.valueOf(above).gcd(java.math.BigInteger.valueOf(n)).intValue();
        return (part == 0 ? above : n) / g;
    }

    int image() {
        image = now.copy();
        return lying();
    }

    int back() {
        need(image != null, STATE);
        World w = image.copy();
        for (int i = 0; i < w.finds.size(); i++) {
            w.finds.get(i).size = now.finds.get(i).size;
        }
        now = w;
        return lying();
    }

    int count(int what) {
        within(what, 0, 8);
        return new int[] {now.finds.size(), now.finds.size() - lying(), now.wet, now.plate, now.year, now.walked,
            texts.size(), tape.length(), now.rule}[what];
    }

    int sheet(int sheet, int sort, int n) {
        sheetAt(sheet);
        within(sort, -1, 2);
        if (sort >= 0) {
            need(n <= 40, BAD);
            need(n >= 0, -14);
        }
        sheets[sheet] = sort == -1 ? null : sort == 0 ? new byte[n] : sort == 1 ? new short[n] : new int[n];
        return 1;
    }

    int cell(int sheet, int i, int v) {
        Object row = sheetAt(sheet);
        need(row != null, -11);
        item(row, i);
        if (row instanceof byte[]) {
            ((byte[]) row)[i] = (byte) v;
        } else if (row instanceof short[]) {
            ((short[]) row)[i] = (short) v;
        } else {
            ((int[]) row)[i] = v;
        }
        return 1;
    }

    int copy(int sheet, int i, int other, int j, int n) {
        Object from = sheetAt(sheet);
        Object to = sheetAt(other);
        try {
            if (from == null || to == null) {
                return -11;
            }
            System.arraycopy(from, i, to, j, n);
        } catch (ArrayStoreException e) {
            return -13;
        } catch (IndexOutOfBoundsException e) {
            return -12;
        }
        return n;
    }

    int finds(int sheet, int sort, int from, int n) {
        Object row = sheetAt(sheet);
        within(sort, 0, 2);
        within(n, 0, 12);
        Class<?> due = sort == 0 ? byte[].class : sort == 1 ? short[].class : int[].class;
        need(row == null || due.isInstance(row), -13);
        need(row != null, -11);
        int came = 0;
        for (int k = 0; k < n; k++) {
            int a = item(row, from + 3 * k);
            int b = item(row, from + 3 * k + 1);
            int what = item(row, from + 3 * k + 2);
            try {
                find(a, b, what);
                came++;
            } catch (Refusal r) {
                need(r.code == BAD || r.code == FULL, r.code);
            }
        }
        return came;
    }

    int taken(int find, int k) {
        Class<?> kind = Find.of(k).getClass();
        Find f = get(find, -11);
        need(kind.isInstance(f), -13);
        return f.size;
    }
}
