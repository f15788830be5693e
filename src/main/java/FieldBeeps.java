/**
 * Beeps in a ploughed field. The document (../shared/DOC.md) says what each call answers; words in
 * capitals are its terms. All rows are made in constructors: no later call makes an object.
 */
public final class FieldBeeps {
    public static final int NONE = -1, BAD = -2, STATE = -3, FULL = -4;
    public static final long NO = -4611686018427387904L;

    /** What the host refuses. */
    private static final int MISSING = -11, OUTSIDE = -12, OTHER_SORT = -13, BELOW_ZERO = -14;

    private static final int PLAIN = 0, SILVER = 1, IRON = 2, FOIL = 3, LEAD = 4, HOARD = 5;
    /** The KIND that a KIND stands under. */
    private static final int[] ABOVE = {NONE, PLAIN, PLAIN, SILVER, PLAIN, SILVER};

    private static final int STRIPS = 6, WIDTH = 8, CELLS = STRIPS * WIDTH;
    private static final int ALL_STRIPS = (1 << STRIPS) - 1;
    private static final int MOST_FINDS = 12, MOST_DEPTH = 20, MOST_SIZE = 9;
    private static final int MOST_WET = 9, MOST_PLATE = 9, MOST_YEAR = 99;
    private static final int MOST_YEARS = 20, MOST_SEEDS = 20, MOST_WORTH = 99;
    /** As deep as one digs; and what the plough turns over. */
    private static final int DIG_DEPTH = 10, TURN_DEPTH = 12;

    private static final int SHEETS = 4, SORTS = 3, MOST_ITEMS = 40;
    private static final int BYTES = 0, SHORTS = 1, NO_SORT = -1;

    private static final int MOST_TEXTS = 6, MOST_TAPE = 160, MOST_DIGITS = 4, MOST_OPEN = 5;
    private static final int FAULT_BASE = -100;
    /** The parts of a TEXT. */
    private static final int DIGS = 0, HEARS = 1, WORTH = 2, PARTS = 3;

    /** Tokens, most of which are steps of a TEXT's code as well; a token of 0 or above is a NUMBER. */
    private static final int TONE = -1, LOUD = -2, WET = -3, PLATE = -4, PLACE_Y = -5, PLACE_X = -6;
    private static final int OR = -7, AND = -8, NOT = -9, LESS = -10, SAME = -11;
    private static final int PLUS = -12, MINUS = -13, TIMES = -14, NEGATED = -15;
    private static final int OPENS = -16, CLOSES = -17, STOP = -18, END = -19, WRONG = -20;
    /** The KEY that begins a part is this one less the part. */
    private static final int FIRST_KEY = -21;
    private static final int NAMES = 6;

    /** How tightly a part of a TEXT is bound: E, AND, NOT, SUM, TERM, ONE. */
    private static final int RANK_E = 0, RANK_AND = 1, RANK_NOT = 2;
    private static final int RANK_SUM = 3, RANK_TERM = 4, RANK_ONE = 5;

    /** TEXT 0: digs 30 &lt; tone ; hears 10 ; worth tone - 10 ; and where its parts end. */
    private static final int[] FIRST_TEXT = {30, TONE, LESS, 10, TONE, 10, MINUS};
    private static final int[] FIRST_ENDS = {3, 4, 7};

    private final Field field = new Field();
    private final Field kept = new Field();
    private final Field later = new Field();
    private final Field trial = new Field();
    private final Texts texts = new Texts();
    private final Reader reader = new Reader(texts);
    private final Walker walker = new Walker(texts);
    private final Sheets sheets = new Sheets();
    private boolean hasImage = false;

    public FieldBeeps() {
    }

    // ---- finds

    public int find(int kind, int cell, int what) {
        if (!isWithin(kind, PLAIN, HOARD) || !isCell(cell) || what < 0) {
            return BAD;
        }
        int depth = what / 10;
        int size = what % 10;
        if (depth > MOST_DEPTH || size == 0) {
            return BAD;
        }
        return field.lay(kind, cell, depth, size);
    }

    public int set(int what, int of, int v) {
        switch (what) {
            case 0:
                return changeWet(v);
            case 1:
                return changePlate(v);
            case 2:
                return changeFind(field.cell, of, v, isCell(v));
            case 3:
                return changeFind(field.depth, of, v, isWithin(v, 0, MOST_DEPTH));
            case 4:
                return changeFind(field.size, of, v, isWithin(v, 1, MOST_SIZE));
            default:
                return BAD;
        }
    }

    private int changeWet(int v) {
        if (!isWithin(v, 0, MOST_WET)) {
            return BAD;
        }
        int was = field.wet;
        field.wet = v;
        return was;
    }

    private int changePlate(int v) {
        if (!isWithin(v, 1, MOST_PLATE)) {
            return BAD;
        }
        int was = field.plate;
        field.plate = v;
        return was;
    }

    private int changeFind(int[] row, int find, int v, boolean fits) {
        if (!fits || !field.has(find) || find >= row.length) {
            return BAD;
        }
        if (!field.lies(find)) {
            return STATE;
        }
        int was = row[find];
        row[find] = v;
        return was;
    }

    public int told(int find, int what) {
        if (!field.has(find)) {
            return BAD;
        }
        switch (what) {
            case 0:
                return field.kind[find];
            case 1:
                return field.cell[find];
            case 2:
                return field.depth[find];
            case 3:
                return field.size[find];
            case 4:
                return field.lies(find) ? 0 : 1;
            case 5:
                return toneOf(field.kind[find], field.size[find]);
            case 6:
                return field.loud(find);
            case 7:
                return field.heard(find);
            case 8:
                return dragsOf(field.kind[find], field.size[find], field.depth[find]);
            case 9:
                return texts.reckon(WORTH, field, find, field.loud(find));
            default:
                return BAD;
        }
    }

    // ---- texts

    public int feed(int letter) {
        if (!isWithin(letter, 0, 255)) {
            return BAD;
        }
        return reader.append(letter);
    }

    public int text() {
        if (texts.isFull()) {
            return FULL;
        }
        int fault = reader.readTape();
        if (fault != NONE) {
            return FAULT_BASE - fault;
        }
        return texts.keep();
    }

    public int force(int text) {
        if (!texts.has(text)) {
            return BAD;
        }
        int was = field.rule;
        field.rule = text;
        return was;
    }

    // ---- walking, ploughing

    public int beep(int cell) {
        if (!isCell(cell)) {
            return BAD;
        }
        return walker.beepIn(field, cell);
    }

    public int walk(int strip) {
        if (!isWithin(strip, 0, STRIPS - 1)) {
            return BAD;
        }
        field.walked |= 1 << strip;
        return walker.walkStrips(field, 1 << strip);
    }

    public int plough() {
        field.turnOver();
        return field.year;
    }

    public int found(int strips, int what) {
        if (!isWithin(strips, 0, ALL_STRIPS) || !isWithin(what, 0, 1)) {
            return BAD;
        }
        int number = foundIn(field, strips);
        return what == 0 ? number : walker.worth;
    }

    /** FOUND BY: how many; worth stands in the walker then. */
    private int foundIn(Field start, int strips) {
        trial.become(start);
        return walker.walkStrips(trial, strips);
    }

    public int years(int n) {
        if (!isWithin(n, 0, MOST_YEARS)) {
            return BAD;
        }
        trial.become(field);
        int number = 0;
        for (int i = 0; i < n; i++) {
            number += walker.walkStrips(trial, ALL_STRIPS);
            trial.turnOver();
        }
        return number;
    }

    public int soonest(int what) {
        if (!isWithin(what, 0, 1)) {
            return BAD;
        }
        int best = 0;
        int most = NONE;
        later.become(field);
        for (int n = 0; n <= MOST_YEARS; n++) {
            int number = foundIn(later, ALL_STRIPS);
            if (number > most) {
                most = number;
                best = n;
            }
            later.turnOver();
        }
        return what == 0 ? best : most;
    }

    public int strips(int k, int what) {
        if (!isWithin(k, 0, STRIPS) || !isWithin(what, 0, 1)) {
            return BAD;
        }
        int best = 0;
        int most = NONE;
        for (int bits = 0; bits <= ALL_STRIPS; bits++) {
            if (Integer.bitCount(bits) != k) {
                continue;
            }
            foundIn(field, bits);
            if (walker.worth > most) {
                most = walker.worth;
                best = bits;
            }
        }
        return what == 0 ? best : most;
    }

    public int better() {
        int now = foundIn(field, ALL_STRIPS);
        later.become(field);
        later.plate = Math.min(MOST_PLATE, field.plate + 1);
        return foundIn(later, ALL_STRIPS) - now;
    }

    public int order(int a, int b) {
        if (!isWithin(a, 1, MOST_PLATE) || !isWithin(b, 1, MOST_PLATE)) {
            return BAD;
        }
        trial.become(field);
        trial.plate = a;
        walker.walkStrips(trial, ALL_STRIPS);
        trial.plate = b;
        return walker.walkStrips(trial, ALL_STRIPS);
    }

    // ---- maps

    public int pot() {
        if (field.taken == 0) {
            return NONE;
        }
        int best = 0;
        int least = field.farFrom(0);
        for (int cell = 1; cell < CELLS; cell++) {
            int far = field.farFrom(cell);
            if (far < least) {
                least = far;
                best = cell;
            }
        }
        return best;
    }

    public int came(int find, int n) {
        if (!field.has(find) || !isWithin(n, 0, MOST_YEARS)) {
            return BAD;
        }
        int cell = field.cell[find];
        int depth = field.depth[find];
        int x = cell % WIDTH;
        for (int i = 1; i <= n; i++) {
            depth = depth <= TURN_DEPTH ? TURN_DEPTH - depth : Math.min(MOST_DEPTH, depth + 1);
            int drags = dragsOf(field.kind[find], field.size[find], depth);
            x += (field.year - i) % 2 == 0 ? -drags : drags;
        }
        return cell - cell % WIDTH + held(x, WIDTH - 1);
    }

    public int dots(int cell) {
        if (!isCell(cell)) {
            return BAD;
        }
        return field.dotsIn(cell);
    }

    public int thick() {
        int best = NONE;
        int most = 0;
        for (int cell = 0; cell < CELLS; cell++) {
            int number = field.dotsIn(cell);
            if (number > most) {
                most = number;
                best = cell;
            }
        }
        return best;
    }

    public int judge(int sheet, int what) {
        if (!isSheet(sheet) || !isWithin(what, 0, 1)) {
            return BAD;
        }
        if (sheets.sortOf(sheet) == NO_SORT) {
            return MISSING;
        }
        int first = NONE;
        int slips = 0;
        for (int i = 0; i < sheets.sizeOf(sheet); i++) {
            if (sheets.itemOf(sheet, i) == field.dotsIn(i)) {
                continue;
            }
            slips++;
            if (first == NONE) {
                first = i;
            }
        }
        return what == 0 ? first : slips;
    }

    public int unseen() {
        return field.stripsWithFinds() & ~field.walked;
    }

    public int left(int what) {
        if (!isWithin(what, 0, 1)) {
            return BAD;
        }
        return what == 0 ? field.lying() : neverHeard();
    }

    private int neverHeard() {
        trial.become(field);
        int heard = 0;
        for (int plate = 1; plate <= MOST_PLATE; plate++) {
            trial.plate = plate;
            heard |= walker.dugIfHeard(trial);
        }
        return field.lying() - Integer.bitCount(heard);
    }

    public int drawn(int seed) {
        return foundIfDrawn(seed);
    }

    private int foundIfDrawn(int seed) {
        trial.become(field);
        trial.scatter(seed);
        return walker.walkStrips(trial, ALL_STRIPS);
    }

    public long odds(int seed, int n, int least, int part) {
        if (!isWithin(n, 1, MOST_SEEDS) || !isWithin(least, 0, MOST_FINDS) || !isWithin(part, 0, 1)) {
            return NO;
        }
        int above = 0;
        for (int i = 0; i < n; i++) {
            if (foundIfDrawn(seed + i) >= least) {
                above++;
            }
        }
        return part == 0 ? lowered(above, n) : lowered(n, above);
    }

    /** v, divided by the greatest number that divides the other one, too. */
    private static int lowered(int v, int other) {
        for (int divisor = Math.max(v, other); divisor > 1; divisor--) {
            if (v % divisor == 0 && other % divisor == 0) {
                return v / divisor;
            }
        }
        return v;
    }

    public int image() {
        kept.layAs(field);
        hasImage = true;
        return field.lying();
    }

    public int back() {
        if (!hasImage) {
            return STATE;
        }
        field.layAs(kept);
        return field.lying();
    }

    public int count(int what) {
        switch (what) {
            case 0:
                return field.count;
            case 1:
                return field.count - field.lying();
            case 2:
                return field.wet;
            case 3:
                return field.plate;
            case 4:
                return field.year;
            case 5:
                return field.walked;
            case 6:
                return texts.count;
            case 7:
                return reader.size;
            case 8:
                return field.rule;
            default:
                return BAD;
        }
    }

    // ---- the host

    public int sheet(int sheet, int sort, int n) {
        if (!isSheet(sheet) || !isWithin(sort, NO_SORT, SORTS - 1)) {
            return BAD;
        }
        if (sort == NO_SORT) {
            sheets.remove(sheet);
            return 1;
        }
        if (n > MOST_ITEMS) {
            return BAD;
        }
        if (n < 0) {
            return BELOW_ZERO;
        }
        sheets.make(sheet, sort, n);
        return 1;
    }

    public int cell(int sheet, int i, int v) {
        if (!isSheet(sheet)) {
            return BAD;
        }
        if (sheets.sortOf(sheet) == NO_SORT) {
            return MISSING;
        }
        if (i < 0 || i >= sheets.sizeOf(sheet)) {
            return OUTSIDE;
        }
        sheets.put(sheet, i, v);
        return 1;
    }

    public int copy(int sheet, int i, int other, int j, int n) {
        if (!isSheet(sheet) || !isSheet(other)) {
            return BAD;
        }
        if (sheets.sortOf(sheet) == NO_SORT || sheets.sortOf(other) == NO_SORT) {
            return MISSING;
        }
        if (sheets.sortOf(sheet) != sheets.sortOf(other)) {
            return OTHER_SORT;
        }
        if (!sheets.hasRange(sheet, i, n) || !sheets.hasRange(other, j, n)) {
            return OUTSIDE;
        }
        sheets.move(sheet, i, other, j, n);
        return n;
    }

    public int finds(int sheet, int sort, int from, int n) {
        if (!isSheet(sheet) || !isWithin(sort, 0, SORTS - 1) || !isWithin(n, 0, MOST_FINDS)) {
            return BAD;
        }
        int sheetSort = sheets.sortOf(sheet);
        if (sheetSort == NO_SORT) {
            return MISSING;
        }
        if (sheetSort != sort) {
            return OTHER_SORT;
        }
        int number = 0;
        for (int k = 0; k < n; k++) {
            int i = from + 3 * k;
            if (!sheets.hasRange(sheet, i, 3)) {
                return OUTSIDE;
            }
            int came = find(sheets.itemOf(sheet, i), sheets.itemOf(sheet, i + 1), sheets.itemOf(sheet, i + 2));
            if (came >= 0) {
                number++;
            }
        }
        return number;
    }

    public int taken(int find, int k) {
        if (!isWithin(k, PLAIN, HOARD)) {
            return BAD;
        }
        if (!field.has(find)) {
            return MISSING;
        }
        return isUnder(field.kind[find], k) ? field.size[find] : OTHER_SORT;
    }

    // ---- what the terms say of numbers alone

    private static boolean isWithin(int v, int least, int most) {
        return v >= least && v <= most;
    }

    private static boolean isCell(int cell) {
        return cell >= 0 && cell < CELLS;
    }

    private static boolean isSheet(int sheet) {
        return sheet >= 0 && sheet < SHEETS;
    }

    /** v, or the bound of 0 .. most that it is beyond. */
    private static int held(int v, int most) {
        return v < 0 ? 0 : v > most ? most : v;
    }

    private static int toneOf(int kind, int size) {
        int plain = 10 + size;
        int silver = plain + 50;
        switch (kind) {
            case SILVER:
                return silver;
            case IRON:
                return plain / 2;
            case FOIL:
                return silver - size;
            case LEAD:
                return plain + 30;
            case HOARD:
                return size > 4 ? silver + 9 : silver;
            default:
                return plain;
        }
    }

    /** LOUD ahead of its bound: it is below 0 where a FIND lies too deep. */
    private static int loudOf(int kind, int size, int depth, int plate, int wet) {
        int plain = 10 * size + 5 * plate + 2 * wet - 6 * depth;
        int silver = plain + 8;
        switch (kind) {
            case SILVER:
                return silver;
            case IRON:
                return plain - 5 * wet;
            case FOIL:
                return silver / 2;
            case HOARD:
                return 2 * silver;
            default:
                return plain;
        }
    }

    private static int dragsOf(int kind, int size, int depth) {
        switch (kind) {
            case IRON:
                return 0;
            case FOIL:
                return 2;
            case LEAD:
                return size < 5 ? 1 : 0;
            case HOARD:
                return depth < 10 ? 1 : 0;
            default:
                return 1;
        }
    }

    private static boolean isUnder(int kind, int k) {
        int up = kind;
        for (int step = 0; step < ABOVE.length; step++) {
            if (up == k) {
                return true;
            }
            if (up < 0 || up >= ABOVE.length) {
                return false;
            }
            up = ABOVE[up];
        }
        return false;
    }

    /** The FINDS, and all else of the field that may change. */
    private static final class Field {
        final int[] kind = new int[MOST_FINDS];
        final int[] cell = new int[MOST_FINDS];
        final int[] depth = new int[MOST_FINDS];
        final int[] size = new int[MOST_FINDS];
        int count = 0;
        /** Which FINDS are TAKEN, as bits. */
        int taken = 0;
        int wet = 0;
        int plate = 3;
        int year = 0;
        int walked = 0;
        int rule = 0;

        /** count never passes the rows' length, so a FIND that is had is an index of each row. */
        boolean has(int find) {
            return find >= 0 && find < count;
        }

        boolean lies(int find) {
            return has(find) && (taken >> find & 1) == 0;
        }

        int lying() {
            return count - Integer.bitCount(taken);
        }

        int lay(int newKind, int newCell, int newDepth, int newSize) {
            if (count >= MOST_FINDS) {
                return FULL;
            }
            kind[count] = newKind;
            cell[count] = newCell;
            depth[count] = newDepth;
            size[count] = newSize;
            count++;
            return count - 1;
        }

        /** What an IMAGE keeps: where FINDS lie is CELL and DEPTH; SIZE isn't named there. */
        void layAs(Field other) {
            System.arraycopy(other.cell, 0, cell, 0, MOST_FINDS);
            System.arraycopy(other.depth, 0, depth, 0, MOST_FINDS);
            count = other.count;
            taken = other.taken;
            wet = other.wet;
            plate = other.plate;
            year = other.year;
            walked = other.walked;
            rule = other.rule;
        }

        void become(Field other) {
            layAs(other);
            System.arraycopy(other.kind, 0, kind, 0, MOST_FINDS);
            System.arraycopy(other.size, 0, size, 0, MOST_FINDS);
        }

        int loud(int find) {
            if (!has(find)) {
                return 0;
            }
            return Math.max(0, loudOf(kind[find], size[find], depth[find], plate, wet));
        }

        int heard(int find) {
            if (!lies(find)) {
                return 0;
            }
            int loud = loudOf(kind[find], size[find], depth[find], plate, wet);
            for (int f = 0; f < count; f++) {
                if (f != find && kind[f] == IRON && cell[f] == cell[find] && lies(f)) {
                    loud -= 10;
                }
            }
            return Math.max(0, loud);
        }

        void turnOver() {
            for (int f = 0; f < count; f++) {
                if (!lies(f)) {
                    continue;
                }
                int x = cell[f] % WIDTH;
                int drags = dragsOf(kind[f], size[f], depth[f]);
                int dragged = year % 2 == 0 ? x + drags : x - drags;
                cell[f] += held(dragged, WIDTH - 1) - x;
                depth[f] = depth[f] <= TURN_DEPTH ? TURN_DEPTH - depth[f] : depth[f] - 1;
            }
            year = Math.min(MOST_YEAR, year + 1);
        }

        /** Where FINDS would lie, DRAWN by a SEED. */
        void scatter(int seed) {
            int z = seed;
            for (int f = 0; f < count; f++) {
                if (lies(f)) {
                    z = z * 1103515245 + 12345;
                    cell[f] = (z >>> 9) % CELLS;
                    depth[f] = (z >>> 16) % (MOST_DEPTH + 1);
                }
            }
        }

        int dotsIn(int place) {
            int number = 0;
            for (int f = 0; f < count; f++) {
                if (cell[f] == place && !lies(f)) {
                    number++;
                }
            }
            return number;
        }

        int stripsWithFinds() {
            int strips = 0;
            for (int f = 0; f < count; f++) {
                if (lies(f)) {
                    strips |= 1 << cell[f] / WIDTH;
                }
            }
            return strips;
        }

        /** How far all TAKEN FINDS are from a CELL, as THE POT weighs it. */
        int farFrom(int place) {
            int sum = 0;
            for (int f = 0; f < count; f++) {
                if (!lies(f)) {
                    sum += 3 * Math.abs(cell[f] / WIDTH - place / WIDTH);
                    sum += Math.abs(cell[f] % WIDTH - place % WIDTH);
                }
            }
            return sum;
        }
    }

    /** Walks STRIPS of a field by its RULE. */
    private static final class Walker {
        private final Texts texts;
        /** Worth of what the last walk found. */
        int worth = 0;

        Walker(Texts texts) {
            this.texts = texts;
        }

        int walkStrips(Field field, int strips) {
            int number = 0;
            worth = 0;
            for (int y = 0; y < STRIPS; y++) {
                if ((strips >> y & 1) == 0) {
                    continue;
                }
                for (int step = 0; step < WIDTH; step++) {
                    int x = y % 2 == 0 ? step : WIDTH - 1 - step;
                    number += digIn(field, y * WIDTH + x);
                }
            }
            return number;
        }

        private int digIn(Field field, int cell) {
            for (int number = 0; number < MOST_FINDS; number++) {
                int find = beepIn(field, cell);
                if (!field.lies(find) || field.depth[find] > DIG_DEPTH) {
                    return number;
                }
                int heard = field.heard(find);
                if (texts.reckon(DIGS, field, find, heard) == 0) {
                    return number;
                }
                worth += texts.reckon(WORTH, field, find, heard);
                field.taken |= 1 << find;
            }
            return MOST_FINDS;
        }

        int beepIn(Field field, int cell) {
            int loudest = NONE;
            int most = NONE;
            for (int f = 0; f < field.count; f++) {
                if (field.cell[f] != cell || !field.lies(f)) {
                    continue;
                }
                int heard = field.heard(f);
                if (heard > most && heard >= texts.reckon(HEARS, field, f, heard)) {
                    most = heard;
                    loudest = f;
                }
            }
            return loudest;
        }

        /** The FINDS (bits) that LIE, are HEARD as loud as hears, and for which one digs. */
        int dugIfHeard(Field field) {
            int bits = 0;
            for (int f = 0; f < field.count; f++) {
                if (!field.lies(f)) {
                    continue;
                }
                int heard = field.heard(f);
                if (heard >= texts.reckon(HEARS, field, f, heard)
                        && texts.reckon(DIGS, field, f, heard) != 0) {
                    bits |= 1 << f;
                }
            }
            return bits;
        }
    }

    /** TEXTS as code: rows of steps in which an operator stands behind what it joins. */
    private static final class Texts {
        int count = 1;
        private final int[] code = new int[MOST_TEXTS * MOST_TAPE];
        /** Where each part of each TEXT ends in the code. */
        private final int[] ends = new int[MOST_TEXTS * PARTS];
        private final int[] names = new int[NAMES];
        private final int[] stack = new int[MOST_TAPE];
        /** Where the next step of the TEXT that is being read comes. */
        private int next = 0;

        Texts() {
            System.arraycopy(FIRST_TEXT, 0, code, 0, FIRST_TEXT.length);
            System.arraycopy(FIRST_ENDS, 0, ends, 0, PARTS);
        }

        boolean has(int text) {
            return text >= 0 && text < count;
        }

        boolean isFull() {
            return count >= MOST_TEXTS;
        }

        /** A TEXT is read anew into the room behind the kept ones. */
        void begin() {
            next = count * MOST_TAPE;
        }

        void write(int step) {
            if (next >= 0 && next < code.length) {
                code[next] = step;
                next++;
            }
        }

        void endPart(int part) {
            int i = count * PARTS + part;
            if (i >= 0 && i < ends.length) {
                ends[i] = next;
            }
        }

        int keep() {
            count++;
            return count - 1;
        }

        /** A part of a field's RULE for a FIND that is so loud. */
        int reckon(int part, Field field, int find, int loud) {
            int end = field.rule * PARTS + part;
            if (!has(field.rule) || !field.has(find) || !isWithin(part, DIGS, WORTH) || end >= ends.length) {
                return 0;
            }
            names[0] = toneOf(field.kind[find], field.size[find]);
            names[1] = loud;
            names[2] = field.wet;
            names[3] = field.plate;
            names[4] = field.cell[find] / WIDTH;
            names[5] = field.cell[find] % WIDTH;
            int from = part == DIGS ? field.rule * MOST_TAPE : ends[end - 1];
            int value = run(from, ends[end]);
            return part == DIGS ? value : held(value, MOST_WORTH);
        }

        private int run(int from, int end) {
            int top = 0;
            for (int i = from; i < end && i < code.length; i++) {
                int step = code[i];
                if (step >= PLACE_X) {
                    if (top < stack.length) {
                        stack[top] = step >= 0 ? step : names[TONE - step];
                        top++;
                    }
                } else if (step == NOT || step == NEGATED) {
                    if (top >= 1) {
                        stack[top - 1] = turned(step, stack[top - 1]);
                    }
                } else if (top >= 2) {
                    top--;
                    stack[top - 1] = joined(step, stack[top - 1], stack[top]);
                }
            }
            return stack[0];
        }

        private static int turned(int step, int a) {
            if (step == NEGATED) {
                return -a;
            }
            return a == 0 ? 1 : 0;
        }

        private static int joined(int step, int a, int b) {
            switch (step) {
                case OR:
                    return a != 0 || b != 0 ? 1 : 0;
                case AND:
                    return a != 0 && b != 0 ? 1 : 0;
                case LESS:
                    return a < b ? 1 : 0;
                case SAME:
                    return a == b ? 1 : 0;
                case PLUS:
                    return a + b;
                case MINUS:
                    return a - b;
                default:
                    return a * b;
            }
        }
    }

    /** THE TAPE, and how a TEXT is read from it. */
    private static final class Reader {
        int size = 0;
        private final Texts texts;
        private final int[] tape = new int[MOST_TAPE];
        /** The first byte behind the token at hand, and the token's own first byte. */
        private int behind = 0;
        private int place = 0;
        private int token = END;
        private int fault = NONE;

        Reader(Texts texts) {
            this.texts = texts;
        }

        int append(int letter) {
            if (size >= tape.length) {
                return FULL;
            }
            tape[size] = letter;
            size++;
            return size;
        }

        /** The place of THE TAPE's FAULT; NONE: its TEXT stands written and may be kept. */
        int readTape() {
            behind = 0;
            fault = NONE;
            texts.begin();
            advance();
            for (int part = DIGS; part < PARTS; part++) {
                expect(FIRST_KEY - part);
                readRank(RANK_E, 0);
                texts.endPart(part);
                expect(STOP);
            }
            if (token != END) {
                refuse();
            }
            size = 0;
            return fault;
        }

        private void readRank(int rank, int open) {
            if (rank >= RANK_ONE) {
                readOne(open);
                return;
            }
            if (rank == RANK_NOT && token == NOT) {
                if (mayOpen(open)) {
                    readRank(RANK_NOT, open + 1);
                    texts.write(NOT);
                }
                return;
            }
            readRank(rank + 1, open);
            // a comparison joins two sums, never a third
            int most = rank == RANK_NOT ? 1 : MOST_TAPE;
            for (int n = 0; n < most && isJoint(rank, token); n++) {
                int joint = token;
                advance();
                readRank(rank + 1, open);
                texts.write(joint);
            }
        }

        private static boolean isJoint(int rank, int token) {
            switch (rank) {
                case RANK_E:
                    return token == OR;
                case RANK_AND:
                    return token == AND;
                case RANK_NOT:
                    return token == LESS || token == SAME;
                case RANK_SUM:
                    return token == PLUS || token == MINUS;
                default:
                    return rank == RANK_TERM && token == TIMES;
            }
        }

        private void readOne(int open) {
            if (token >= PLACE_X) {
                texts.write(token);
                advance();
            } else if (token == MINUS) {
                if (mayOpen(open)) {
                    readOne(open + 1);
                    texts.write(NEGATED);
                }
            } else if (token == OPENS) {
                if (mayOpen(open)) {
                    readRank(RANK_E, open + 1);
                    expect(CLOSES);
                }
            } else {
                refuse();
            }
        }

        /** Passes a token that opens something, unless too many are open. */
        private boolean mayOpen(int open) {
            if (open >= MOST_OPEN) {
                refuse();
                return false;
            }
            advance();
            return true;
        }

        private void expect(int wanted) {
            if (token == wanted) {
                advance();
            } else {
                refuse();
            }
        }

        /** The first FAULT counts; WRONG can stand nowhere, so nothing is read behind it. */
        private void refuse() {
            if (fault == NONE) {
                fault = place;
            }
            token = WRONG;
        }

        private void advance() {
            while (behind < size && (tape[behind] == 32 || tape[behind] == 10)) {
                behind++;
            }
            place = behind;
            if (behind >= size) {
                token = END;
            } else if (isLetter(tape[behind])) {
                token = takeWord();
            } else if (isDigit(tape[behind])) {
                token = takeNumber();
            } else {
                token = signOf(tape[behind]);
                behind++;
            }
        }

        private static boolean isLetter(int letter) {
            return letter >= 'a' && letter <= 'z';
        }

        private static boolean isDigit(int letter) {
            return letter >= '0' && letter <= '9';
        }

        private static int signOf(int letter) {
            switch (letter) {
                case '(':
                    return OPENS;
                case ')':
                    return CLOSES;
                case ';':
                    return STOP;
                case '+':
                    return PLUS;
                case '-':
                    return MINUS;
                case '*':
                    return TIMES;
                case '<':
                    return LESS;
                case '=':
                    return SAME;
                default:
                    return WRONG;
            }
        }

        private int takeNumber() {
            int value = 0;
            while (behind < size && isDigit(tape[behind])) {
                value = value * 10 + tape[behind] - '0';
                behind++;
            }
            return behind - place > MOST_DIGITS ? WRONG : value;
        }

        private int takeWord() {
            while (behind < size && isLetter(tape[behind])) {
                behind++;
            }
            if (spells("tone")) {
                return TONE;
            } else if (spells("loud")) {
                return LOUD;
            } else if (spells("wet")) {
                return WET;
            } else if (spells("plate")) {
                return PLATE;
            } else if (spells("y")) {
                return PLACE_Y;
            } else if (spells("x")) {
                return PLACE_X;
            } else if (spells("or")) {
                return OR;
            } else if (spells("and")) {
                return AND;
            } else if (spells("not")) {
                return NOT;
            } else if (spells("digs")) {
                return FIRST_KEY - DIGS;
            } else if (spells("hears")) {
                return FIRST_KEY - HEARS;
            } else if (spells("worth")) {
                return FIRST_KEY - WORTH;
            }
            return WRONG;
        }

        private boolean spells(String word) {
            if (behind - place != word.length()) {
                return false;
            }
            for (int i = 0; i < word.length(); i++) {
                if (tape[place + i] != word.charAt(i)) {
                    return false;
                }
            }
            return true;
        }
    }

    /** SHEETS: items are held as ints, cut to their sort when they come. */
    private static final class Sheets {
        private final int[] sort = {NO_SORT, NO_SORT, NO_SORT, NO_SORT};
        private final int[] size = new int[SHEETS];
        private final int[] item = new int[SHEETS * MOST_ITEMS];

        int sortOf(int sheet) {
            return isSheet(sheet) ? sort[sheet] : NO_SORT;
        }

        int sizeOf(int sheet) {
            return isSheet(sheet) ? size[sheet] : 0;
        }

        void remove(int sheet) {
            make(sheet, NO_SORT, 0);
        }

        void make(int sheet, int newSort, int n) {
            if (!isSheet(sheet)) {
                return;
            }
            sort[sheet] = newSort;
            size[sheet] = held(n, MOST_ITEMS);
            for (int i = 0; i < MOST_ITEMS; i++) {
                item[sheet * MOST_ITEMS + i] = 0;
            }
        }

        int itemOf(int sheet, int i) {
            return hasRange(sheet, i, 1) ? item[sheet * MOST_ITEMS + i] : 0;
        }

        void put(int sheet, int i, int v) {
            if (!hasRange(sheet, i, 1)) {
                return;
            }
            int cut = sort[sheet] == BYTES ? (byte) v : sort[sheet] == SHORTS ? (short) v : v;
            item[sheet * MOST_ITEMS + i] = cut;
        }

        /** Whether n items from i on are there; none at all may stand right behind the last. */
        boolean hasRange(int sheet, int i, int n) {
            return i >= 0 && n >= 0 && i <= sizeOf(sheet) && n <= sizeOf(sheet) - i;
        }

        void move(int sheet, int i, int other, int j, int n) {
            if (hasRange(sheet, i, n) && hasRange(other, j, n) && isSheet(sheet) && isSheet(other)) {
                System.arraycopy(item, sheet * MOST_ITEMS + i, item, other * MOST_ITEMS + j, n);
            }
        }
    }
}
