import com.sun.management.ThreadMXBean;
import java.lang.management.ManagementFactory;

/** "An object is used for at most 512 calls": what such a run makes has room, whatever is called. */
public final class RoomTest {
    private static final int CALLS = 512;
    private static final int WARMING = 3;
    private static final int MOST_BYTES_OF_AN_OBJECT = 16 * 1024;
    // The machine's own bookkeeping; a single small object a call would be some 8,000 bytes.
    private static final int MOST_BYTES_OF_A_RUN = 4 * 1024;

    public static void main(String[] args) {
        ThreadMXBean threads = (ThreadMXBean) ManagementFactory.getThreadMXBean();
        for (int call = 0; call < 33; call++) {
            long made = 0;
            long called = 0;
            for (int round = 0; round < WARMING; round++) {
                long before = threads.getCurrentThreadAllocatedBytes();
                SevenOnStrike x = new SevenOnStrike();
                made = threads.getCurrentThreadAllocatedBytes() - before;
                before = threads.getCurrentThreadAllocatedBytes();
                for (int i = 0; i < CALLS; i++) {
                    call(x, call, i);
                }
                called = threads.getCurrentThreadAllocatedBytes() - before;
            }
            Due.holds("an object is small: " + made, made <= MOST_BYTES_OF_AN_OBJECT);
            Due.holds("call " + call + " makes nothing: " + called, called <= MOST_BYTES_OF_A_RUN);
        }
        Due.end();
    }

    private static int call(SevenOnStrike x, int call, int i) {
        switch (call) {
            case 0: return x.write("x1;c1;e7;".charAt(i % 9));
            case 1: return x.wipe();
            case 2: return x.fault();
            case 3: return x.lay();
            case 4: return x.figure(i % 10, i % 2);
            case 5: return x.coin(i % 6);
            case 6: return x.strike(i % 10, i % 2);
            case 7: return x.standIn(i % 10, i / 10 % 10);
            case 8: return x.undo();
            case 9: return x.said(i * 190);
            case 10: return x.next(i * 190);
            case 11: return x.rank(i * 190);
            case 12: return x.kth(i * 190);
            case 13: return x.sum(i % 3);
            case 14: return x.ways(i);
            case 15: return x.shortest(i, i % 4);
            case 16: return x.change(i % 201);
            case 17: return x.never();
            case 18: return x.pays(i % 201);
            case 19: return x.day(i * 19);
            case 20: return x.agree();
            case 21: return x.odds(i % 19, i % 2);
            case 22: return x.mean(i % 2);
            case 23: return x.dark(i % 10, i % 10);
            case 24: return x.forget();
            case 25: return x.works();
            case 26: return x.costs(i % 10, i * 19);
            case 27: return x.dearest(i * 19, i % 2);
            case 28: return x.bargain(i % 10, i / 10 % 10, i * 19);
            case 29: return x.days(i * 19, 1 + i % 50, i % 2);
            case 30: return x.keep();
            case 31: return x.back();
            default: return x.count(i % 8);
        }
    }
}
