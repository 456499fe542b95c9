import com.sun.management.ThreadMXBean;
import java.lang.management.ManagementFactory;

/** What 512 calls of the dearest kinds make on one object, by bytes: objects are made once and used again. */
public final class RoomTest {
    /** An int takes four bytes: all that one object may ever hold, far below the room of 7.3 million elements. */
    private static final long MOST = 4L * 140000;
    private static final Check CHECK = new Check("RoomTest");

    public static void main(String[] args) {
        ThreadMXBean threads = (ThreadMXBean) ManagementFactory.getThreadMXBean();
        long thread = Thread.currentThread().getId();
        calls(new TiedRow(), 2);
        long before = threads.getThreadAllocatedBytes(thread);
        TiedRow x = new TiedRow();
        long made = threads.getThreadAllocatedBytes(thread);
        calls(x, 512);
        long after = threads.getThreadAllocatedBytes(thread);
        CHECK.holds("a new object takes " + (made - before) + " bytes", made - before < 4 * 4000);
        CHECK.holds("512 calls of each kind take " + (after - before) + " bytes", after - before < MOST);
        CHECK.end();
    }

    private static void calls(TiedRow x, int rounds) {
        for (int i = 0; i < rounds; i++) {
            int n = i % 16 == 0 ? 8 : 10;
            world(x, n);
            for (int m = 0; m < 5; m++) {
                x.row(0, 60);
                x.first(m, 0);
                x.rank(m, 0);
                x.swaps(m, 0);
                x.moves(m, 0);
                x.order(m, 1, 1);
                x.costs(m, 0, 1);
                x.bars(m, 0);
                x.where(m, 0, 3);
                x.places(m, 1);
                x.middle(m, 1);
                x.leads(m, 0, 1);
                x.both(m, (m + 1) % 5);
                x.both((m + 2) % 5, m);
                x.lots(m, 9, 9);
            }
            x.must();
            x.all();
            x.average();
            x.image(2);
            x.on(2);
            x.draw(7, 3);
            x.apart(0, 3);
            x.digest();
        }
    }

    private static void world(TiedRow x, int n) {
        x.text(0, 12);
        x.put(0, 0, 'n');
        x.put(0, 1, n == 10 ? '1' : '0');
        x.put(0, 2, n == 10 ? '0' : '0' + n);
        x.put(0, 3, 'A');
        x.put(0, 4, '<');
        x.put(0, 5, 'B');
        x.world(0);
        for (int a = 0; a + 1 < n; a++) {
            x.tie(a, a + 1, 1 + a % 3);
        }
    }
}
