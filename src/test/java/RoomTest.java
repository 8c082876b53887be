import com.sun.management.ThreadMXBean;
import java.lang.management.ManagementFactory;

/** Rule 12 and the one room of a run: a new object is small, and no call behind it makes anything. */
public final class RoomTest {
    private static final Check CHECK = new Check();
    private static final ThreadMXBean THREADS = (ThreadMXBean) ManagementFactory.getThreadMXBean();

    private static final String HOUSE = "waA1wbB2wcC3wdD4wabA5wbcB6wcdC7wdefgD8+a+a+b+b+c+c+d+d+e+f+g^A^B^C^D.A.B.C.D"
        + ":AA:AB:AC:AD:BA:BB:BC:BD:CA:CB:CC:CD:DA:DB:DC:DD";

    /** Some 25,000 elements of eight bytes. */
    private static final long MOST_OF_AN_OBJECT = 200000;

    public static void main(String[] args) {
        CHECK.part("room");
        // The first round loads classes: what that takes is no object of the program.
        measure(false);
        measure(true);
        CHECK.end();
    }

    private static void measure(boolean counts) {
        long before = used();
        long nothing = used() - before;
        before = used();
        BagPhrases x = new BagPhrases();
        long made = used() - before - nothing;
        before = used();
        long answers = calls(x);
        long more = used() - before - nothing;
        if (counts) {
            CHECK.holds("a new object takes " + made + " bytes", made <= MOST_OF_AN_OBJECT);
            CHECK.holds("the calls made " + more + " bytes", more <= 512);
            CHECK.holds("the calls answered", answers != 0);
        }
    }

    private static long calls(BagPhrases x) {
        for (int i = 0; i < HOUSE.length(); i++) {
            x.write(HOUSE.charAt(i));
        }
        long answers = x.house();
        for (int i = 0; i < 8; i++) {
            answers += dearCalls(x, i);
        }
        return answers;
    }

    private static long used() {
        return THREADS.getThreadAllocatedBytes(Thread.currentThread().getId());
    }

    private static long dearCalls(BagPhrases x, int i) {
        long answers = x.put(i) + x.many(0) + x.many(3) + x.having(i) + x.best(2) + x.phrase(i, 2) + x.about(7)
            + x.about(8) + x.tell(i) + x.why(2) + x.number() + x.nearly(0) + x.nearly(1) + x.judge(4, 1000400430004000L)
            + x.see(0, i, 1) + x.left(0) + x.share(i, true) + x.hope(3, true) + x.drawn(20) + x.keep(i % 2) + x.fault();
        return answers + x.undo() + x.allow(2, i % 4, 1) + x.rank(i, 3) + x.bar(i) + x.share(7, false) + x.again(i % 2);
    }
}
