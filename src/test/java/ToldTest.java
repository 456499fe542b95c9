/** Promises 44 to 50: what is told, counts, findings, the digest. */
public final class ToldTest {
    private static final int LOW = Integer.MIN_VALUE, HIGH = Integer.MAX_VALUE;
    private static final Check CHECK = new Check("ToldTest");

    public static void main(String[] args) {
        asked();
        askedStays();
        fractions();
        count();
        findings();
        digest();
        digestOfAll();
        constants();
        CHECK.end();
    }

    private static void asked() {
        TiedRow x = new TiedRow();
        CHECK.due("before", x.asked(), 0);
        x.row(0, 2);
        x.lay(0, 0, 8);
        x.lay(0, 0, 5);
        CHECK.due("lay", x.asked(), 8);
        x.at(0, 0);
        CHECK.due("at", x.asked(), 5);
        x.mean(0);
        CHECK.due("mean", x.asked(), 2);
        TiedRow y = Check.worldOf("n3AB2BC1A<B");
        y.told(0, 2);
        CHECK.due("told", y.asked(), 1);
        Check.layOrder(y, 0, "ACB");
        y.gap(0, 1);
        CHECK.due("gap", y.asked(), 2);
        y.leads(0, 0, 2);
        CHECK.due("leads", y.asked(), 1);
        y.off(0, 1);
        y.both(2, 3);
        CHECK.due("both", y.asked(), 4);
        y.must();
        CHECK.due("must", y.asked(), 0);
        y.swaps(0, 0);
        CHECK.due("swaps", y.asked(), 3);
        Check.layOrder(y, 0, "ACB");
        y.moves(1, 0);
        CHECK.due("moves", y.asked(), 2);
        y.lots(0, 1, 1);
        CHECK.due("lots", y.asked(), 4);
    }

    /** Calls that tell nothing by asked() leave it, refused ones too. */
    private static void askedStays() {
        TiedRow x = Check.worldOf("n3AB2BC1A<B");
        x.row(0, 3);
        x.lay(0, 1, 77);
        x.at(0, 1);
        x.at(0, 9);
        x.at(6, 0);
        x.told(1, 0);
        x.gap(0, 0);
        x.swaps(0, 0);
        x.leads(0, 1, 1);
        x.both(5, 0);
        x.lots(0, 0, 1);
        x.mean(5);
        CHECK.due("behind refused ones", x.asked(), 77);
        x.text(0, 3);
        x.put(0, 0, 65);
        x.fault(0);
        x.world(0);
        x.tie(0, 1, 3);
        x.rule(0, 0, 0, 0);
        x.off(1, 1);
        x.back(1);
        x.mark(0, 1);
        x.draw(1, 1);
        x.measure(0, 1);
        x.breaks(1);
        x.least(0);
        x.first(0, 2);
        x.ways(0);
        x.rank(0, 2);
        x.order(0, 0, 2);
        x.all();
        x.bound(0);
        x.costs(0, 0, 1);
        x.bars(0, 0);
        x.where(0, 0, 0);
        x.places(0, 0);
        x.middle(0, 0);
        x.apart(1, 2);
        x.average();
        x.image(3);
        x.on(3);
        x.copy(1, 0, 2, 0, 1);
        x.tear(3);
        x.count(1);
        x.finding();
        x.findings(1);
        x.digest();
        CHECK.due("behind those that tell nothing so", x.asked(), 77);
    }

    private static void fractions() {
        TiedRow x = new TiedRow();
        CHECK.due("upper before", x.upper(), 0);
        CHECK.due("lower before", x.lower(), 1);
        Check.write(x, 0, "n4AB1A@2");
        x.world(0);
        x.average();
        CHECK.due("upper", x.upper(), 5);
        CHECK.due("lower", x.lower(), 3);
        x.average();
        x.middle(0, 9);
        x.middle(9, 0);
        CHECK.due("upper stays", x.upper(), 5);
        CHECK.due("lower stays", x.lower(), 3);
        // A is at 2, B at 1 in two orders and at 3 in two.
        x.middle(0, 1);
        CHECK.due("upper of B", x.upper(), 2);
        CHECK.due("lower of B", x.lower(), 1);
        // C is at 0 1 0 3 by B at 3 3 1 1.
        x.middle(0, 2);
        CHECK.due("upper of C", x.upper(), 1);
        CHECK.due("lower of C", x.lower(), 1);
        x.rule(1, 2, 3, 0);
        x.middle(0, 2);
        CHECK.due("upper of C ahead of D", x.upper(), 0);
        CHECK.due("lower of C ahead of D", x.lower(), 1);
        x.middle(0, 3);
        CHECK.due("upper of D", x.upper(), 2);
        CHECK.due("lower of D", x.lower(), 1);
    }

    private static void counts(TiedRow x, int... want) {
        for (int what = 0; what < 7; what++) {
            CHECK.due("count " + what, x.count(what), want[what]);
        }
    }

    private static void count() {
        TiedRow x = Check.worldOf("n5AB2BA0BC1DE9A<BC+DA!BE?ABC@1");
        counts(x, 5, 2, 5, 2, 0, 0, 1);
        x.off(1, 1);
        x.off(4, 1);
        x.rule(0, 0, 0, 0);
        x.row(0, 0);
        x.row(5, 60);
        x.text(0, 0);
        counts(x, 5, 2, 6, 2, 2, 2, 2);
        x.tear(0);
        x.back(1);
        x.tie(0, 4, 1);
        counts(x, 5, 3, 1, 1, 0, 1, 2);
        for (int what : new int[] {-1, 7, LOW, HIGH}) {
            CHECK.refuses("count " + what, x, TiedRow.BAD, () -> x.count(what));
        }
    }

    private static void findings() {
        TiedRow x = new TiedRow();
        CHECK.due("no finding", x.finding(), 0);
        for (int f = 1; f <= 5; f++) {
            CHECK.due("none of " + f, x.findings(f), 0);
        }
        x.row(1, 0);
        x.rule(0, 0, 0, 0);
        for (int round = 1; round <= 3; round++) {
            int[] calls = {x.tear(0), x.at(1, 0), x.mark(0, 1), x.mean(1), x.row(0, -1)};
            int[] due = {1, 2, 3, 4, 5};
            for (int i = 0; i < 5; i++) {
                CHECK.due("a finding", calls[i], TiedRow.FINDING);
                CHECK.due("how often " + due[i], x.findings(due[i]), round);
            }
            CHECK.due("the latest", x.finding(), 5);
        }
        x.row(9, 0);
        x.row(0, 1);
        x.finding();
        CHECK.due("the latest still", x.finding(), 5);
        for (int f : new int[] {0, 6, -1, LOW, HIGH}) {
            CHECK.refuses("findings " + f, x, TiedRow.BAD, () -> x.findings(f));
        }
    }

    private static long digestBy(long... values) {
        long h = 17;
        for (long v : values) {
            h = 31 * h + v;
        }
        return h;
    }

    private static void digest() {
        TiedRow x = new TiedRow();
        CHECK.due("of a new one", x.digest(), digestBy(0, 0, 0, 0, 0, 0, 0, -1, -1, -1, -1, -1, -1, -1, -1, -1, -1));
        x.row(4, 2);
        x.lay(4, 0, -5);
        x.lay(4, 1, HIGH);
        x.text(1, 1);
        x.put(1, 0, 200);
        x.row(0, 0);
        x.at(4, 1);
        CHECK.due("of rows and texts", x.digest(),
            digestBy(0, 0, 0, 0, 0, 2, 1, 0, -1, -1, -1, 2, -5, HIGH, -1, -1, 1, -56, -1, -1));
        CHECK.due("asked() stays", x.asked(), HIGH);
        CHECK.due("it stays", x.digest(), x.digest());
    }

    private static void digestOfAll() {
        TiedRow x = Check.worldOf("n3BC7A+BC?AB");
        x.off(1, 1);
        x.text(3, 0);
        CHECK.due("of a world", x.digest(), digestBy(3, 1, 2, 1, 1, 0, 1, 0, 0, 7,
            2, 0, 1, 0, 0, 6, 2, 0, 1, 1, -1, -1, -1, -1, -1, -1, -1, -1, -1, 0));
    }

    private static void constants() {
        CHECK.due("BAD", TiedRow.BAD, -1);
        CHECK.due("FULL", TiedRow.FULL, -2);
        CHECK.due("FINDING", TiedRow.FINDING, -3);
        CHECK.due("STATE", TiedRow.STATE, -4);
        CHECK.due("SPENT", TiedRow.SPENT, -6);
        CHECK.due("NONE", TiedRow.NONE, -9);
    }
}
