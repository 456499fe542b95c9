import java.util.Arrays;

/**
 * Each call with the edges of all its numbers at once, in worlds that are empty, small, full, without an allowed order,
 * and too large for LONG: held against the plain Model. So each pair of refusals meets, whichever comes first.
 */
public final class EdgesTest {
    private static final int LOW = Check.LOW, HIGH = Check.HIGH, NONE = TiedRow.NONE;
    /** Calls of the document, with the kinds of their numbers (see edgesOf()); a star: it looks at all orders. */
    private static final String[] CALLS = {
        "row r size", "lay r place value", "at r place", "tear r", "copy r place r place size", "mean r", "text t size",
        "put t place value", "fault t", "world t", "tie a a w", "rule kind a p a", "off k bit", "back k", "told k five",
        "mark k kind", "measure m r", "breaks r", "gap r nine", "least* m", "first* m r", "ways* m", "rank* m r",
        "order* m count r", "all*", "bound m", "costs* m a a", "bars* m k", "where* m a p", "places* m a", "middle* m a",
        "leads* m a a", "both* m m", "must*", "swaps m r", "moves m r", "apart r r", "draw seed r", "lots m count seed", "average*",
        "image r", "on r", "asked", "upper", "lower", "count five", "finding", "findings five", "digest",
    };
    private static final String[] WORLDS = {
        "", "n1", "n1 A@1", "n2 AB9 A<B", "n3 AB2 BC1 A<B", "n3 AB2 BC1 A<B B<A", "n4 AB1 AC2 AD3 BC4 BD5 CD6",
        "n3 AC1 A<B B+C A@9 B^0 A!C C?AB A^9 C<A", "n5 AB3 BC1 CD4 DE1 EA2 A?BC", "n9 AB1 A<B B<A", "n10 IJ9 A<B",
    };
    private static final Check CHECK = new Check("EdgesTest");

    private final String world;
    private final int n;
    private Pair pair;
    private long digest;

    private EdgesTest(String world) {
        this.world = world;
        prepare();
        this.n = pair.model.count(0);
    }

    public static void main(String[] args) {
        for (String world : WORLDS) {
            EdgesTest edges = new EdgesTest(world);
            for (String call : CALLS) {
                edges.callByAll(call);
            }
        }
        CHECK.end();
    }

    /** As Check.rich(): orders, rows that are none, full and missing ones; and a rule that is off. */
    private void prepare() {
        pair = new Pair("'" + world + "'", CHECK);
        if (!world.isEmpty()) {
            pair.write(3, world);
            pair.call("world", 3);
        }
        int things = pair.model.count(0);
        pair.write(0, "n2 AB7 B<");
        pair.write(1, " ".repeat(118) + "n1");
        int[] rising = new int[things];
        int[] none = new int[things];
        for (int i = 0; i < things; i++) {
            rising[i] = i;
            none[i] = i + 32;
        }
        pair.layRow(0, rising);
        pair.call("image", 1);
        pair.layRow(2, Arrays.copyOf(rising, things + 1));
        pair.layRow(3, none);
        pair.layRow(4, new int[60]);
        pair.call("off", pair.model.count(2) - 1, 1);
        pair.call("lay", 4, 59, -777);
        pair.call("at", 4, 59);
        digest = pair.model.digest();
    }

    private void callByAll(String line) {
        String[] words = line.split(" ");
        boolean looksAtAll = words[0].endsWith("*");
        String name = words[0].replace("*", "");
        int[][] edges = new int[words.length - 1][];
        for (int i = 0; i < edges.length; i++) {
            edges[i] = edgesOf(words[i + 1]);
        }
        // Of nine things and more the model can't look at all orders: there LONG alone, and what is bad.
        if (looksAtAll && n > 8) {
            if (edges.length == 0) {
                return;
            }
            edges[0] = new int[] {4, 5, -1, LOW, HIGH};
        }
        callBy(name, edges, new int[edges.length], 0);
    }

    private void callBy(String name, int[][] edges, int[] numbers, int i) {
        if (i < edges.length) {
            for (int number : edges[i]) {
                numbers[i] = number;
                callBy(name, edges, numbers, i + 1);
            }
            return;
        }
        pair.call(name, numbers.clone());
        if (!pair.isAlike() || pair.model.digest() != digest || pair.model.asked() != -777) {
            prepare();
        }
    }

    private int[] edgesOf(String kind) {
        int rules = pair.model.count(2);
        switch (kind) {
            case "r": return new int[] {-1, 0, 2, 3, 4, 5, 6};
            case "t": return new int[] {-1, 0, 1, 2, 3, 4};
            case "size": return new int[] {LOW, -1, 0, 1, n, 60, 61, 120, 121, HIGH};
            case "place": return new int[] {LOW, -1, 0, n - 1, n, 59, 60, 119, 120, HIGH};
            case "value": return new int[] {LOW, -129, 127, 128, HIGH};
            case "a": return new int[] {LOW, -1, 0, n / 2, n - 1, n, HIGH};
            case "p": return new int[] {LOW, -1, 0, n - 1, n, 9, 10, HIGH};
            case "w": return new int[] {LOW, -10, NONE, -8, -1, 0, 1, 9, 10, HIGH};
            case "m": return new int[] {LOW, -1, 0, 1, 2, 3, 4, 5, HIGH};
            case "k": return new int[] {LOW, -1, 0, rules - 1, rules, rules + 1, 8, HIGH};
            case "kind": return new int[] {LOW, -1, 0, 1, 2, 3, 4, 5, 6, 7, HIGH};
            case "bit": return new int[] {LOW, -1, 0, 1, 2, HIGH};
            case "five": return new int[] {LOW, -1, 0, 1, 2, 3, 4, 5, 6, 7, HIGH};
            case "nine": return new int[] {LOW, -1, 0, n - 2, n - 1, 8, 9, HIGH};
            case "count": return new int[] {LOW, -1, 0, 1, 23, 24, 120, 200, 201, HIGH};
            case "seed": return new int[] {LOW, -1, 0, 1, 2147483646, HIGH};
            default: throw new IllegalStateException(kind);
        }
    }
}
