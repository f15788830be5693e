import com.sun.management.ThreadMXBean;
import java.lang.management.ManagementFactory;

/**
 * All calls of one run live in one room of some 600,000 objects and 7.3 million elements, so an
 * object is small, and no call makes anything.
 */
public final class RoomTest {
    private static final int MOST_BYTES = 12000;
    /** For what the machine may make beside: far below one row a call. */
    private static final int SLACK_BYTES = 200;
    private static final Checks c = new Checks();
    private static final ThreadMXBean threads = (ThreadMXBean) ManagementFactory.getThreadMXBean();

    public static void main(String[] args) {
        // once for the classes, which are loaded but once
        use(crowded());
        FieldBeeps x = crowded();
        long before = made();
        use(x);
        long calls = made() - before;
        before = made();
        FieldBeeps y = new FieldBeeps();
        long object = made() - before;
        c.due("a new object LIES empty", y.count(0), 0);
        System.out.println("an object: " + object + " bytes; its calls: " + calls + " bytes");
        c.isTrue("an object takes " + object + " bytes", object <= MOST_BYTES);
        c.isTrue("calls make nothing, but made " + calls + " bytes", calls <= SLACK_BYTES);
        c.end();
    }

    private static long made() {
        return threads.getThreadAllocatedBytes(Thread.currentThread().getId());
    }

    private static FieldBeeps crowded() {
        FieldBeeps x = Checks.ruled("digs (1+(2*(3-(4<(5 or x)))));hears not not not not not 1;worth -----loud;");
        for (int i = 0; i < 12; i++) {
            x.find(i % 6, 20 + i % 2, 10 * i + 9 - i % 3);
        }
        x.image();
        return x;
    }

    private static void use(FieldBeeps x) {
        for (int i = 0; i < 12; i++) {
            x.told(i, 9);
            x.set(3, i, i);
            x.taken(i, 1);
            x.came(i, 20);
            x.feed(40);
        }
        x.text();
        for (int s = 0; s < 4; s++) {
            x.sheet(s, 2, 40);
            x.cell(s, 3, 7);
            x.copy(s, 0, 0, 5, 20);
            x.judge(s, 1);
            x.finds(s, 2, 0, 12);
        }
        x.beep(20);
        x.found(63, 1);
        x.years(20);
        x.soonest(0);
        x.strips(3, 0);
        x.better();
        x.order(1, 9);
        x.left(1);
        x.drawn(3);
        x.odds(1, 20, 3, 0);
        x.walk(2);
        x.plough();
        x.pot();
        x.thick();
        x.dots(20);
        x.unseen();
        x.back();
        x.force(0);
        x.count(0);
    }
}
