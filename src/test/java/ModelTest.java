import java.util.Arrays;
import java.util.Random;
import java.util.function.LongSupplier;

/** Random runs of calls: each answer of the class against the model's. */
public final class ModelTest {
    private static final int RUNS = 3000;
    private static final int CALLS = 480;
    private static final String[] WORDS = {"tone", "loud", "wet", "plate", "y", "x", "0", "1", "2", "5", "10", "30",
        "9999", "12345", "(", ")", ";", "+", "-", "*", "<", "=", "and", "or", "not", "digs", "hears", "worth", "\n",
        " ", "yx", "?", "not", "(", "-"};
    private static final Checks c = new Checks();
    private static final Random random = new Random(20261118);

    public static void main(String[] args) {
        for (int run = 0; run < RUNS; run++) {
            run(run);
        }
        c.end();
    }

    private static void run(int run) {
        FieldBeeps x = new FieldBeeps();
        Model m = new Model();
        boolean wild = run % 5 == 0;
        boolean crowded = run % 3 == 0;
        for (int i = 0; i < CALLS; i++) {
            int call = random.nextInt(40);
            if (call >= 36) {
                i += readText(run, x, m, call == 36 ? broken() : textOf());
                continue;
            }
            int[] a = arguments(call % 33, wild, crowded);
            long got = ask(x, call % 33, a);
            long want = due(() -> askModel(m, call % 33, a));
            c.due("run " + run + ", " + i + ": call " + call % 33 + Arrays.toString(a), got, want);
        }
    }

    /** What the model answers, be it by a refusal. */
    private static long due(LongSupplier call) {
        try {
            return call.getAsLong();
        } catch (Model.Refusal r) {
            return r.code;
        }
    }

    /** Feeds and reads a text, mostly behind nothing else: how many calls that were. */
    private static int readText(int run, FieldBeeps x, Model m, String text) {
        if (random.nextInt(4) > 0) {
            c.due("run " + run + ": text() ahead of a text", x.text(), due(m::text));
        }
        for (int k = 0; k < text.length(); k++) {
            int letter = text.charAt(k);
            c.due("run " + run + ": feed(" + letter + ")", x.feed(letter), due(() -> m.feed(letter)));
        }
        c.due("run " + run + ": text() of " + text, x.text(), due(m::text));
        if (random.nextInt(3) > 0) {
            int last = x.count(6) - 1;
            c.due("run " + run + ": force(" + last + ")", x.force(last), due(() -> m.force(last)));
        }
        return text.length() + 3;
    }

    private static String expression(int depth) {
        int way = random.nextInt(depth <= 0 ? 2 : 11);
        switch (way) {
            case 0:
                return WORDS[random.nextInt(6)];
            case 1:
                return String.valueOf(random.nextInt(random.nextBoolean() ? 20 : 120));
            case 2:
                return "(" + expression(depth - 1) + ")";
            case 3:
                return "-" + WORDS[random.nextInt(6)];
            case 4:
                return "not " + expression(depth - 1);
            case 5:
                return expression(depth - 1) + " and " + expression(depth - 1);
            case 6:
                return expression(depth - 1) + " or " + expression(depth - 1);
            default:
                String sign = "+-*<=".substring(way % 5, way % 5 + 1);
                return expression(depth - 1) + (random.nextBoolean() ? sign : " " + sign + " ") + expression(depth - 1);
        }
    }

    /** Mostly one that can be read. */
    private static String textOf() {
        String text;
        do {
            String digs = random.nextInt(3) == 0 ? "1" : expression(3);
            String hears = random.nextInt(2) == 0 ? "10" : expression(2);
            text = "digs " + digs + ";hears " + hears + ";worth " + expression(2) + ";";
        } while (text.length() > 150);
        return text;
    }

    private static String broken() {
        StringBuilder text = new StringBuilder(textOf());
        int n = 1 + random.nextInt(3);
        for (int i = 0; i < n; i++) {
            int at = random.nextInt(text.length());
            if (random.nextBoolean()) {
                text.deleteCharAt(at);
            } else {
                text.insert(at, WORDS[random.nextInt(WORDS.length)]);
            }
        }
        text.setLength(Math.min(text.length(), 155));
        return text.toString();
    }

    private static int any(int most) {
        return random.nextInt(most + 1);
    }

    /** Mostly arguments that are such; of a wild run often none such. */
    private static int[] arguments(int call, boolean wild, boolean crowded) {
        int[] a = new int[5];
        int[][] most = {{5, 47, 209}, {4, 11, 9}, {11, 9}, {255}, {}, {5}, {47}, {5}, {}, {63, 1}, {20}, {1}, {6, 1},
            {}, {9, 9}, {}, {11, 20}, {47}, {}, {3, 1}, {}, {1}, {1 << 30}, {1 << 30, 20, 12, 1}, {}, {}, {8},
            {3, 2, 40}, {3, 40, 100}, {3, 10, 3, 10, 10}, {3, 2, 5, 4}, {11, 5}, {}};
        for (int i = 0; i < most[call].length; i++) {
            a[i] = any(most[call][i]);
            if (random.nextInt(wild ? 4 : 25) == 0) {
                int[] odd = {-1, -2, 0, 1, most[call][i] + 1, Integer.MAX_VALUE, Integer.MIN_VALUE, random.nextInt()};
                a[i] = odd[random.nextInt(odd.length)];
            }
        }
        if (call == 0 && crowded && a[1] > 0) {
            a[1] = 16 + a[1] % 3;
        }
        if (call == 0 && random.nextInt(3) > 0 && a[2] > 0) {
            a[2] %= 100;
        }
        if (call == 1 && a[0] == 2 && a[2] >= 0 && a[2] <= 9) {
            a[2] += any(38);
        }
        if (call == 27 && random.nextBoolean()) {
            a[1] = 2;
        }
        return a;
    }

    private static long ask(FieldBeeps x, int call, int[] a) {
        switch (call) {
            case 0: return x.find(a[0], a[1], a[2]);
            case 1: return x.set(a[0], a[1], a[2]);
            case 2: return x.told(a[0], a[1]);
            case 3: return x.count(7) > 5 ? x.text() : x.feed(a[0]);
            case 4: return x.text();
            case 5: return x.force(a[0]);
            case 6: return x.beep(a[0]);
            case 7: return x.walk(a[0]);
            case 8: return x.plough();
            case 9: return x.found(a[0], a[1]);
            case 10: return x.years(a[0]);
            case 11: return x.soonest(a[0]);
            case 12: return x.strips(a[0], a[1]);
            case 13: return x.better();
            case 14: return x.order(a[0], a[1]);
            case 15: return x.pot();
            case 16: return x.came(a[0], a[1]);
            case 17: return x.dots(a[0]);
            case 18: return x.thick();
            case 19: return x.judge(a[0], a[1]);
            case 20: return x.unseen();
            case 21: return x.left(a[0]);
            case 22: return x.drawn(a[0]);
            case 23: return x.odds(a[0], a[1], a[2], a[3]);
            case 24: return x.image();
            case 25: return x.back();
            case 26: return x.count(a[0]);
            case 27: return x.sheet(a[0], a[1], a[2]);
            case 28: return x.cell(a[0], a[1], a[2]);
            case 29: return x.copy(a[0], a[1], a[2], a[3], a[4]);
            case 30: return x.finds(a[0], a[1], a[2], a[3]);
            case 31: return x.taken(a[0], a[1]);
            default: return x.count(0);
        }
    }

    private static long askModel(Model m, int call, int[] a) {
        switch (call) {
            case 0: return m.find(a[0], a[1], a[2]);
            case 1: return m.set(a[0], a[1], a[2]);
            case 2: return m.told(a[0], a[1]);
            case 3: return m.count(7) > 5 ? m.text() : m.feed(a[0]);
            case 4: return m.text();
            case 5: return m.force(a[0]);
            case 6: return m.beep(a[0]);
            case 7: return m.walk(a[0]);
            case 8: return m.plough();
            case 9: return m.found(a[0], a[1]);
            case 10: return m.years(a[0]);
            case 11: return m.soonest(a[0]);
            case 12: return m.strips(a[0], a[1]);
            case 13: return m.better();
            case 14: return m.order(a[0], a[1]);
            case 15: return m.pot();
            case 16: return m.came(a[0], a[1]);
            case 17: return m.dots(a[0]);
            case 18: return m.thick();
            case 19: return m.judge(a[0], a[1]);
            case 20: return m.unseen();
            case 21: return m.left(a[0]);
            case 22: return m.drawn(a[0]);
            case 23: return m.odds(a[0], a[1], a[2], a[3]);
            case 24: return m.image();
            case 25: return m.back();
            case 26: return m.count(a[0]);
            case 27: return m.sheet(a[0], a[1], a[2]);
            case 28: return m.cell(a[0], a[1], a[2]);
            case 29: return m.copy(a[0], a[1], a[2], a[3], a[4]);
            case 30: return m.finds(a[0], a[1], a[2], a[3]);
            case 31: return m.taken(a[0], a[1]);
            default: return m.count(0);
        }
    }
}
