import com.sun.management.ThreadMXBean;
import java.lang.management.ManagementFactory;
import java.util.ArrayList;
import java.util.List;

/**
 * What objects and calls make, by bytes (rule 12 of LANGUAGE.md): an object's rows are made with it, and no call makes
 * a row or an object, neither as the first one on a new object nor later.
 */
public final class RoomTest {
    private static final int INT_BYTES = 4;
    /** What one object may hold, in elements: some eighty such objects fill the room of 7.3 million. */
    private static final long OBJECT_MOST = 90000;
    /** Next to nothing, in bytes: less than the least row that the program has use for. */
    private static final long CALL_MOST = 24;
    private static final int CALLS_OF_AN_OBJECT = 512, TRIES = 5;
    private static final Check CHECK = new Check("RoomTest");
    private static final ThreadMXBean THREADS = (ThreadMXBean) ManagementFactory.getThreadMXBean();
    private static final long THREAD = Thread.currentThread().getId();

    private interface Call {
        long on(TiedRow x);
    }

    private record Named(String name, Call call) {
    }

    public static void main(String[] args) {
        List<Named> calls = calls();
        object();
        firstCalls(calls);
        laterCalls(calls);
        CHECK.holds("bytes are counted", madeBy(new TiedRow(), x -> new int[100].length) >= 100 * INT_BYTES);
        CHECK.end();
    }

    private static long made() {
        return THREADS.getThreadAllocatedBytes(THREAD);
    }

    private static long madeBy(TiedRow x, Call call) {
        long before = made();
        call.on(x);
        return made() - before;
    }

    /**
     * The least over some tries, each on a new object: the machine now and then makes something of its own (when it
     * meets a class for the first time, when it compiles), the program makes the same in each.
     */
    private static long leastMadeBy(Call before, Call call) {
        long least = Long.MAX_VALUE;
        for (int i = 0; i < TRIES && least > 0; i++) {
            TiedRow x = new TiedRow();
            before.on(x);
            least = Math.min(least, madeBy(x, call));
        }
        return least;
    }

    private static void object() {
        long bytes = leastMadeBy(x -> 0, x -> new TiedRow().finding());
        CHECK.holds("a new object takes " + bytes + " bytes", bytes > 0 && bytes <= INT_BYTES * OBJECT_MOST);
    }

    /** Each call alone, on an object of its own, in worlds of all sizes; the calls that make the world, too. */
    private static void firstCalls(List<Named> calls) {
        for (String signs : new String[] {"", "n1", "n5 AB3 BC1 A<B", "n8 A<B", "n8 AB1 BC2 CD3 GH1 A+C E@9", "n8 A!B C?DE",
            "n10", "n10 AB1 BC2 CD3 IJ9 A<B C+D J^7 B!A"}) {
            Call world = x -> prepare(x, signs);
            long worldBytes = leastMadeBy(x -> 0, world);
            CHECK.holds("the world \"" + signs + "\" takes " + worldBytes + " bytes", worldBytes <= CALL_MOST);
            for (Named each : calls) {
                long bytes = leastMadeBy(world, each.call);
                CHECK.holds(each.name + " first in \"" + signs + "\" takes " + bytes + " bytes", bytes <= CALL_MOST);
            }
        }
    }

    /** As many calls as an object may have, of all kinds one behind the other, while ties and rules change. */
    private static void laterCalls(List<Named> calls) {
        for (String signs : new String[] {"n8 AB1 BC2 CD3 A<B", "n10 AB1 BC2 CD3 IJ9 A<B"}) {
            long bytes = leastMadeBy(x -> prepare(x, signs), x -> {
                long sum = 0;
                for (int i = 0; i < CALLS_OF_AN_OBJECT; i++) {
                    sum += calls.get(i * 7 % calls.size()).call.on(x);
                }
                return sum;
            });
            CHECK.holds("512 calls in \"" + signs + "\" take " + bytes + " bytes", bytes <= CALL_MOST);
        }
    }

    private static long prepare(TiedRow x, String signs) {
        if (signs.isEmpty()) {
            return 0;
        }
        Check.write(x, 3, signs);
        int n = x.world(3);
        for (int r = 0; r < 2; r++) {
            x.row(r, n);
            for (int i = 0; i < n; i++) {
                x.lay(r, i, r == 0 ? i : n - 1 - i);
            }
        }
        return n;
    }

    private static List<Named> calls() {
        List<Named> out = new ArrayList<>();
        rowCalls(out);
        worldCalls(out);
        for (int m = -1; m <= 5; m++) {
            measureCalls(out, m);
        }
        out.add(new Named("all()", x -> x.all()));
        out.add(new Named("must()", x -> x.must()));
        out.add(new Named("breaks(0)", x -> x.breaks(0)));
        out.add(new Named("gap(0, 3)", x -> x.gap(0, 3)));
        out.add(new Named("apart(0, 1)", x -> x.apart(0, 1)));
        out.add(new Named("draw(7, 2)", x -> x.draw(7, 2)));
        out.add(new Named("average()", x -> x.average()));
        out.add(new Named("image(2)", x -> x.image(2)));
        out.add(new Named("on(2)", x -> x.on(2)));
        out.add(new Named("asked()", x -> x.asked()));
        out.add(new Named("upper()", x -> x.upper()));
        out.add(new Named("lower()", x -> x.lower()));
        out.add(new Named("finding()", x -> x.finding()));
        out.add(new Named("findings(1)", x -> x.findings(1)));
        out.add(new Named("digest()", x -> x.digest()));
        for (int what = -1; what <= 7; what++) {
            int w = what;
            out.add(new Named("count(" + w + ")", x -> x.count(w)));
        }
        return out;
    }

    private static void rowCalls(List<Named> out) {
        out.add(new Named("row(5, 60)", x -> x.row(5, 60)));
        out.add(new Named("row(5, 61)", x -> x.row(5, 61)));
        out.add(new Named("lay(0, 0, 0)", x -> x.lay(0, 0, 0)));
        out.add(new Named("at(0, 0)", x -> x.at(0, 0)));
        out.add(new Named("tear(5)", x -> x.tear(5)));
        out.add(new Named("copy(0, 0, 0, 0, 1)", x -> x.copy(0, 0, 0, 0, 1)));
        out.add(new Named("mean(0)", x -> x.mean(0)));
        out.add(new Named("text(2, 120)", x -> x.text(2, 120)));
        out.add(new Named("put(2, 0, 65)", x -> x.put(2, 0, 65)));
        out.add(new Named("fault(2)", x -> x.fault(2)));
        out.add(new Named("fault(3)", x -> x.fault(3)));
        out.add(new Named("world(2)", x -> x.world(2)));
        out.add(new Named("world(3)", x -> x.world(3)));
    }

    private static void worldCalls(List<Named> out) {
        out.add(new Named("tie(0, 1, 4)", x -> x.tie(0, 1, 4)));
        out.add(new Named("tie(0, 1, NONE)", x -> x.tie(0, 1, TiedRow.NONE)));
        for (int kind = 0; kind <= 6; kind++) {
            int k = kind;
            out.add(new Named("rule(" + k + ", 0, 1, 2)", x -> x.rule(k, 0, 1, 2)));
        }
        out.add(new Named("told(0, 0)", x -> x.told(0, 0)));
        out.add(new Named("mark(0, 1)", x -> x.mark(0, 1)));
        out.add(new Named("off(0, 1)", x -> x.off(0, 1)));
        out.add(new Named("off(0, 0)", x -> x.off(0, 0)));
        out.add(new Named("back(1)", x -> x.back(1)));
    }

    private static void measureCalls(List<Named> out, int m) {
        out.add(new Named("measure(" + m + ", 0)", x -> x.measure(m, 0)));
        out.add(new Named("least(" + m + ")", x -> x.least(m)));
        out.add(new Named("first(" + m + ", 2)", x -> x.first(m, 2)));
        out.add(new Named("ways(" + m + ")", x -> x.ways(m)));
        out.add(new Named("rank(" + m + ", 0)", x -> x.rank(m, 0)));
        out.add(new Named("order(" + m + ", 1, 2)", x -> x.order(m, 1, 2)));
        out.add(new Named("bound(" + m + ")", x -> x.bound(m)));
        out.add(new Named("costs(" + m + ", 0, 1)", x -> x.costs(m, 0, 1)));
        out.add(new Named("bars(" + m + ", 0)", x -> x.bars(m, 0)));
        out.add(new Named("where(" + m + ", 0, 3)", x -> x.where(m, 0, 3)));
        out.add(new Named("places(" + m + ", 0)", x -> x.places(m, 0)));
        out.add(new Named("middle(" + m + ", 0)", x -> x.middle(m, 0)));
        out.add(new Named("leads(" + m + ", 0, 1)", x -> x.leads(m, 0, 1)));
        for (int other = 0; other <= 4; other++) {
            int l = other;
            out.add(new Named("both(" + m + ", " + l + ")", x -> x.both(m, l)));
        }
        out.add(new Named("swaps(" + m + ", 0)", x -> x.swaps(m, 0)));
        out.add(new Named("moves(" + m + ", 1)", x -> x.moves(m, 1)));
        out.add(new Named("lots(" + m + ", 200, 9)", x -> x.lots(m, 200, 9)));
    }
}
