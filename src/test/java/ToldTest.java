import java.math.BigInteger;
import java.util.List;
import java.util.function.IntSupplier;
import java.util.function.ToLongFunction;

/** Promises 44 to 50: what is told, counts, findings, the digest. */
public final class ToldTest {
    private static final int LOW = Check.LOW, HIGH = Check.HIGH, BAD = TiedRow.BAD;
    private static final int NOTHING = Check.NOTHING, BEYOND = Check.BEYOND, UNLIKE = Check.UNLIKE, NOUGHT = Check.NOUGHT;
    private static final Check CHECK = new Check("ToldTest");

    public static void main(String[] args) {
        asked();
        askedByOthers();
        askedByRefused();
        askedBefore();
        upper();
        lower();
        count();
        countRefused();
        finding();
        findings();
        findingsRefused();
        digest();
        digestOfRows();
        digestOfWorlds();
        digestLeavesAsked();
        CHECK.end();
    }

    // ---- 44 asked

    private static void asked() {
        CHECK.says(44, "What the latest lay(), at(), mean(), told(), gap(), leads(), both(), must(), swaps(), moves(), lots() "
            + "that was not refused told;");
        TiedRow x = Check.rich("n3 AB2 BC1 A<B");
        CHECK.due("at", x.asked(), Check.RICH_ASKED);
        x.lay(4, 59, 5);
        CHECK.due("lay", x.asked(), Check.RICH_ASKED);
        x.at(4, 59);
        CHECK.due("at", x.asked(), 5);
        Check.layRow(x, 4, HIGH, 8);
        x.mean(4);
        CHECK.due("mean", x.asked(), 1073741827);
        x.told(0, 2);
        CHECK.due("told", x.asked(), 1);
        Check.layOrder(x, 1, "ACB");
        x.gap(1, 1);
        CHECK.due("gap", x.asked(), 2);
        x.leads(0, 0, 2);
        CHECK.due("leads", x.asked(), 1);
        x.off(0, 1);
        x.both(2, 3);
        CHECK.due("both", x.asked(), 4);
        x.must();
        CHECK.due("must", x.asked(), 0);
        x.swaps(0, 1);
        CHECK.due("swaps", x.asked(), 3);
        Check.layOrder(x, 1, "ACB");
        x.moves(1, 1);
        CHECK.due("moves", x.asked(), 2);
        x.lots(0, 1, 1);
        CHECK.due("lots", x.asked(), 4);
        CHECK.due("again and again", x.asked(), 4);
    }

    private record Taken(String name, IntSupplier call) {
    }

    /** Calls of all kinds, none of which is refused: each is taken on a new object that is rich by TAKEN_WORLD. */
    private static List<Taken> takenOn(TiedRow x) {
        return List.of(
            new Taken("row", () -> x.row(5, 3)), new Taken("lay", () -> x.lay(4, 0, 5)), new Taken("at", () -> x.at(4, 0)),
            new Taken("tear", () -> x.tear(2)), new Taken("copy", () -> x.copy(0, 0, 1, 0, 3)), new Taken("mean", () -> x.mean(4)),
            new Taken("text", () -> x.text(2, 3)), new Taken("put", () -> x.put(0, 0, 65)), new Taken("fault", () -> x.fault(0)),
            new Taken("fault", () -> x.fault(3) + 9), new Taken("world", () -> x.world(3)), new Taken("tie", () -> x.tie(0, 1, 3)),
            new Taken("tie", () -> x.tie(0, 1, TiedRow.NONE)), new Taken("rule", () -> x.rule(1, 0, 1, 0)),
            new Taken("off", () -> x.off(0, 1)), new Taken("back", () -> x.back(0)), new Taken("told", () -> x.told(0, 0)),
            new Taken("mark", () -> x.mark(0, 1)), new Taken("measure", () -> x.measure(4, 1)), new Taken("breaks", () -> x.breaks(1)),
            new Taken("gap", () -> x.gap(0, 1)), new Taken("least", () -> x.least(4)), new Taken("first", () -> x.first(4, 5)),
            new Taken("ways", () -> x.ways(4)), new Taken("rank", () -> x.rank(4, 0)), new Taken("order", () -> x.order(2, 0, 5)),
            new Taken("all", x::all), new Taken("bound", () -> x.bound(0)), new Taken("costs", () -> x.costs(0, 0, 1)),
            new Taken("costs", () -> x.costs(0, 0, 2)), new Taken("bars", () -> x.bars(2, 0)), new Taken("where", () -> x.where(0, 0, 0)),
            new Taken("where", () -> x.where(0, 0, 2) + 9), new Taken("places", () -> x.places(4, 0)),
            new Taken("middle", () -> x.middle(0, 0)), new Taken("leads", () -> x.leads(0, 0, 1)), new Taken("leads", () -> x.leads(0, 1, 0)),
            new Taken("both", () -> x.both(0, 0)), new Taken("both", () -> x.both(0, 1)), new Taken("both", () -> x.both(4, 1)),
            new Taken("both", () -> x.both(1, 4)), new Taken("must", x::must), new Taken("swaps", () -> x.swaps(0, 0)),
            new Taken("moves", () -> x.moves(0, 0)), new Taken("apart", () -> x.apart(0, 1)), new Taken("draw", () -> x.draw(1, 5)),
            new Taken("lots", () -> x.lots(0, 9, 1)), new Taken("average", x::average), new Taken("image", () -> x.image(5)),
            new Taken("on", () -> x.image(5) - x.on(5)), new Taken("asked", () -> x.asked() + 777), new Taken("upper", () -> (int) x.upper()),
            new Taken("lower", () -> (int) x.lower()), new Taken("count", () -> x.count(6)), new Taken("finding", x::finding),
            new Taken("findings", () -> x.findings(5)), new Taken("digest", () -> x.digest() == x.digest() ? 0 : -1));
    }

    private static final String TAKEN_WORLD = "n3 AB3 BC1 A<B";

    /** By each call that is taken: what is told of an object before and behind it, where it tells nothing of that itself. */
    private static void staysBy(String what, List<String> tellers, ToLongFunction<TiedRow> told) {
        int calls = takenOn(new TiedRow()).size();
        for (int i = 0; i < calls; i++) {
            TiedRow x = Check.rich(TAKEN_WORLD);
            Taken each = takenOn(x).get(i);
            long before = told.applyAsLong(x);
            int answer = each.call.getAsInt();
            CHECK.holds(each.name + " is taken, it answered " + answer, answer >= 0);
            if (!tellers.contains(each.name)) {
                CHECK.due(what + " behind " + each.name, told.applyAsLong(x), before);
            }
        }
    }

    private static void askedByOthers() {
        CHECK.says(44, "What the latest lay(), at(), mean(), told(), gap(), leads(), both(), must(), swaps(), moves(), lots()");
        staysBy("asked()", List.of("lay", "at", "mean", "told", "gap", "leads", "both", "must", "swaps", "moves", "lots"), TiedRow::asked);
    }

    private static void askedByRefused() {
        CHECK.says(44, "that was not refused told;");
        TiedRow x = Check.rich("n3 AB2 BC1 A<B B<A");
        CHECK.finds("lay", x, BEYOND, () -> x.lay(4, 60, 1));
        CHECK.refuses("lay", x, BAD, () -> x.lay(6, 0, 1));
        CHECK.finds("at", x, NOTHING, () -> x.at(5, 0));
        CHECK.finds("mean", x, NOTHING, () -> x.mean(5));
        CHECK.refuses("told", x, BAD, () -> x.told(2, 0));
        CHECK.finds("gap", x, BEYOND, () -> x.gap(0, 2));
        CHECK.finds("leads", x, NOUGHT, () -> x.leads(0, 0, 1));
        CHECK.finds("both", x, NOUGHT, () -> x.both(0, 1));
        CHECK.finds("swaps", x, UNLIKE, () -> x.swaps(0, 0));
        CHECK.finds("moves", x, UNLIKE, () -> x.moves(0, 0));
        CHECK.refuses("lots", x, BAD, () -> x.lots(0, 0, 1));
        CHECK.due("it stays", x.asked(), Check.RICH_ASKED);
    }

    private static void askedBefore() {
        CHECK.says(44, "0 before.");
        TiedRow x = new TiedRow();
        CHECK.due("a new one", x.asked(), 0);
        x.row(0, 3);
        x.at(0, 3);
        x.draw(5, 1);
        CHECK.due("before any told", x.asked(), 0);
    }

    // ---- 45 upper, 46 lower

    private static void told(String what, TiedRow x, long upper, long lower) {
        CHECK.due(what + ": upper", x.upper(), upper);
        CHECK.due(what + ": lower", x.lower(), lower);
    }

    private static void upper() {
        CHECK.says(45, "The upper number of the fraction that was told last; 0 before.");
        TiedRow x = new TiedRow();
        CHECK.due("before", x.upper(), 0);
        x.average();
        CHECK.due("behind a refused one", x.upper(), 0);
        Check.write(x, 0, "n4 AB1 A@2");
        x.world(0);
        CHECK.due("before, with a world", x.upper(), 0);
        x.average();
        told("average", x, 5, 3);
        // A is at 2, B at 1 in two orders and at 3 in two.
        x.middle(0, 1);
        told("middle of B", x, 2, 1);
        x.average();
        told("average again", x, 5, 3);
        x.rule(1, 2, 3, 0);
        x.middle(0, 2);
        told("C is ahead of D, at 0", x, 0, 1);
        x.middle(0, 3);
        told("D is at 1 or 3", x, 2, 1);
        staysBy("upper()", List.of("middle", "average"), TiedRow::upper);
    }

    private static void lower() {
        CHECK.says(46, "Its lower number; 1 before.");
        TiedRow x = new TiedRow();
        CHECK.due("before", x.lower(), 1);
        x.average();
        CHECK.due("behind a refused one", x.lower(), 1);
        TiedRow y = Check.rich("n4 AB1");
        told("average", y, 5, 3);
        CHECK.refuses("no measure", y, BAD, () -> y.middle(5, 0));
        CHECK.refuses("no thing", y, BAD, () -> y.middle(0, 4));
        y.rule(3, 0, 4, 0);
        CHECK.finds("none is allowed", y, NOUGHT, () -> y.middle(0, 0));
        told("behind refused ones", y, 5, 3);
        y.tie(0, 1, 9);
        y.least(0);
        y.world(3);
        told("behind those that tell none", y, 5, 3);
        staysBy("lower()", List.of("middle", "average"), TiedRow::lower);
    }

    // ---- 47 count

    private static void counts(String what, TiedRow x, int... want) {
        for (int i = 0; i < 7; i++) {
            int kind = i;
            CHECK.answers(what + ": count(" + i + ")", x, want[i], () -> x.count(kind));
        }
    }

    private static void count() {
        CHECK.says(47, "0 THINGS, 1 TIES, 2 RULES, 3 AHEAD ones (RIGHT, too), 4 OFF ones, 5 ROWS, 6 TEXTS that are there.");
        counts("new", new TiedRow(), 0, 0, 0, 0, 0, 0, 0);
        TiedRow x = Check.worldOf("n5 AB2 BA0 BC1 DE9 A<B C+D A!B E?AB C@1 D^1");
        counts("a world", x, 5, 2, 6, 2, 0, 0, 1);
        x.off(1, 1);
        x.off(4, 1);
        x.rule(0, 0, 0, 0);
        x.row(0, 0);
        x.row(5, 60);
        x.text(0, 0);
        counts("two being off", x, 5, 2, 7, 2, 2, 2, 2);
        x.tear(0);
        x.back(1);
        x.tie(0, 4, 1);
        counts("some gone", x, 5, 3, 1, 1, 0, 1, 2);
        TiedRow full = Check.worldOf("n10 A<BA+BA<BA+BA<BA+BA<BA+B");
        for (int a = 0; a < 10; a++) {
            for (int b = a + 1; b < 10; b++) {
                full.tie(a, b, 1);
            }
        }
        for (int i = 0; i < 8; i++) {
            full.off(i, 1);
            full.row(i % 6, i);
            full.text(i % 4, i);
        }
        counts("as many as may be", full, 10, 45, 8, 8, 8, 6, 4);
    }

    private static void countRefused() {
        CHECK.says(47, "BAD.");
        TiedRow x = Check.rich("n3 AB2 BC1 A<B");
        for (int what : Check.outside(0, 6)) {
            CHECK.refuses("count(" + what + ")", x, BAD, () -> x.count(what));
        }
    }

    // ---- 48 finding, 49 findings

    /** Calls that are findings 1 to 5, one by one, on an object with row 1 empty and rule 0 a note. */
    private static IntSupplier[] foundOn(TiedRow x) {
        x.row(1, 0);
        x.rule(0, 0, 0, 0);
        return new IntSupplier[] {() -> x.tear(0), () -> x.at(1, 0), () -> x.mark(0, 1), () -> x.mean(1), () -> x.row(0, -1)};
    }

    private static void finding() {
        CHECK.says(48, "The latest FINDING (0 before any).");
        TiedRow x = new TiedRow();
        CHECK.due("a new one", x.finding(), 0);
        x.row(6, 0);
        x.least(5);
        CHECK.due("before any, though refused", x.finding(), 0);
        IntSupplier[] calls = foundOn(x);
        for (int round = 0; round < 2; round++) {
            for (int f = 5; f >= 1; f--) {
                CHECK.due("a finding", calls[f - 1].getAsInt(), TiedRow.FINDING);
                CHECK.due("the latest", x.finding(), f);
                x.row(6, 0);
                x.row(2, 1);
                x.all();
                CHECK.due("the latest still", x.finding(), f);
            }
        }
        staysBy("finding()", List.of(), TiedRow::finding);
    }

    private static void findings() {
        CHECK.says(49, "How often a FINDING (1 .. 5) was answered.");
        TiedRow x = new TiedRow();
        for (int f = 1; f <= 5; f++) {
            CHECK.due("none of " + f, x.findings(f), 0);
        }
        IntSupplier[] calls = foundOn(x);
        int[] times = {1, 3, 0, 2, 5};
        for (int f = 1; f <= 5; f++) {
            for (int i = 0; i < times[f - 1]; i++) {
                CHECK.due("a finding", calls[f - 1].getAsInt(), TiedRow.FINDING);
            }
        }
        x.row(6, 0);
        x.findings(0);
        for (int f = 1; f <= 5; f++) {
            CHECK.due("how often " + f, x.findings(f), times[f - 1]);
        }
        for (int f = 1; f <= 5; f++) {
            int kind = f;
            staysBy("findings(" + f + ")", List.of(), each -> each.findings(kind));
        }
    }

    private static void findingsRefused() {
        CHECK.says(49, "BAD.");
        TiedRow x = Check.rich("n3 AB2 BC1 A<B");
        for (int f : Check.outside(1, 5)) {
            CHECK.refuses("findings(" + f + ")", x, BAD, () -> x.findings(f));
        }
    }

    // ---- 50 digest

    /** By great numbers, cut to a long at the end alone. */
    private static long digestBy(int... values) {
        BigInteger h = BigInteger.valueOf(17);
        for (int v : values) {
            h = h.multiply(BigInteger.valueOf(31)).add(BigInteger.valueOf(v));
        }
        return h.longValue();
    }

    private static int[] joined(int[]... parts) {
        int size = 0;
        for (int[] part : parts) {
            size += part.length;
        }
        int[] out = new int[size];
        int at = 0;
        for (int[] part : parts) {
            System.arraycopy(part, 0, out, at, part.length);
            at += part.length;
        }
        return out;
    }

    private static final int[] ALL_MISSING = {-1, -1, -1, -1, -1, -1, -1, -1, -1, -1};

    private static void digest() {
        CHECK.says(50, "h = 17; then h = 31 h + v for each v");
        CHECK.due("a new one", new TiedRow().digest(), digestBy(joined(new int[7], ALL_MISSING)));
        // Sixty ints in each row, 120 bytes in each text: as much as may be, the number wrapping around.
        TiedRow x = new TiedRow();
        int[] values = {0, 0, 0, 0, 0, 6, 4};
        for (int r = 0; r < 6; r++) {
            x.row(r, 60);
            int[] ints = new int[61];
            ints[0] = 60;
            for (int i = 0; i < 60; i++) {
                ints[i + 1] = i % 3 == 0 ? LOW + i : HIGH - i * r;
                x.lay(r, i, ints[i + 1]);
            }
            values = joined(values, ints);
        }
        for (int t = 0; t < 4; t++) {
            x.text(t, 120);
            int[] bytes = new int[121];
            bytes[0] = 120;
            for (int i = 0; i < 120; i++) {
                bytes[i + 1] = (i + t) % 2 == 0 ? -128 + i : 127 - i;
                x.put(t, i, bytes[i + 1]);
            }
            values = joined(values, bytes);
        }
        CHECK.due("as much as may be", x.digest(), digestBy(values));
        CHECK.due("it stays", x.digest(), digestBy(values));
    }

    private static void digestOfRows() {
        CHECK.says(50, "of each ROW its size (-1: missing) and places, of each TEXT likewise.");
        TiedRow x = new TiedRow();
        Check.layRow(x, 4, -5, HIGH);
        x.text(1, 1);
        x.put(1, 0, 200);
        x.row(0, 0);
        CHECK.due("some", x.digest(), digestBy(0, 0, 0, 0, 0, 2, 1, 0, -1, -1, -1, 2, -5, HIGH, -1, -1, 1, -56, -1, -1));
        x.text(3, 2);
        x.tear(0);
        CHECK.due("one is missing again", x.digest(),
            digestBy(0, 0, 0, 0, 0, 1, 2, -1, -1, -1, -1, 2, -5, HIGH, -1, -1, 1, -56, -1, 2, 32, 32));
        x.tear(4);
        x.text(1, 0);
        x.text(3, 0);
        CHECK.due("empty texts", x.digest(), digestBy(0, 0, 0, 0, 0, 0, 2, -1, -1, -1, -1, -1, -1, -1, 0, -1, 0));
        Check.layRow(x, 5, LOW);
        CHECK.due("the last row", x.digest(), digestBy(0, 0, 0, 0, 0, 1, 2, -1, -1, -1, -1, -1, 1, LOW, -1, 0, -1, 0));
    }

    private static void digestOfWorlds() {
        CHECK.says(50, "count() 0 to 6; WEIGHTS as image() has them; of each RULE told() 0 to 4;");
        TiedRow x = Check.worldOf("n3 BC7 A+B C?AB");
        x.off(1, 1);
        x.text(3, 0);
        int[] texts = {-1, -1, -1, -1, -1, -1, -1, -1, -1, 0};
        CHECK.due("a world", x.digest(), digestBy(joined(new int[] {3, 1, 2, 1, 1, 0, 1, 0, 0, 7, 2, 0, 1, 0, 0, 6, 2, 0, 1, 1}, texts)));
        x.off(1, 0);
        x.tie(0, 1, 4);
        CHECK.due("changed", x.digest(), digestBy(joined(new int[] {3, 2, 2, 1, 0, 0, 1, 4, 0, 7, 2, 0, 1, 0, 0, 6, 2, 0, 1, 0}, texts)));
        x.back(0);
        CHECK.due("without rules", x.digest(), digestBy(joined(new int[] {3, 2, 0, 0, 0, 0, 1, 4, 0, 7}, texts)));
        TiedRow one = Check.worldOf("n1 A^9");
        one.text(3, 0);
        CHECK.due("of one thing", one.digest(), digestBy(joined(new int[] {1, 0, 1, 0, 0, 0, 1, 4, 0, 9, 0, 0}, texts)));
    }

    private static void digestLeavesAsked() {
        CHECK.says(50, "(of a call that tells by asked(): what it tells, not the 1 that it answers; asked() stays):");
        TiedRow x = Check.rich("n3 AB2 BC1 A<B");
        long digest = x.digest();
        CHECK.due("asked() stays", x.asked(), Check.RICH_ASKED);
        CHECK.due("finding() stays", x.finding(), BEYOND);
        CHECK.due("the same again", x.digest(), digest);
        TiedRow rule = Check.worldOf("n3 C<B");
        rule.text(3, 0);
        int[] texts = {-1, -1, -1, -1, -1, -1, -1, -1, -1, 0};
        CHECK.due("what told() tells", rule.digest(), digestBy(joined(new int[] {3, 0, 1, 1, 0, 0, 1, 0, 0, 0, 1, 2, 1, 0, 0}, texts)));
        CHECK.due("asked() stays 0", rule.asked(), 0);
    }
}
