/** Promises 21 to 26 and 28 to 35: least orders, what they cost, where things can be. */
public final class LeastTest {
    private static final int NOTHING = 1, BEYOND = 2, UNLIKE = 3, NOUGHT = 4, SIZE = 5;
    private static final int LOW = Integer.MIN_VALUE, HIGH = Integer.MAX_VALUE;
    private static final int[] NO_MEASURES = {-1, 5, LOW, HIGH};
    private static final Check CHECK = new Check("LeastTest");

    /** Its orders by SUM CUT HELD PROFILE LONG: ABC 3 2 1 2 1, ACB 5 3 2 3 2, BAC 4 3 1 2 2 and their mirrors. */
    private static final String SMALL = "n3AB2BC1";
    /** Its rules contradict one another. */
    private static final String NONE_ALLOWED = "n3AB2BC1A<BB<A";
    private static final String NINE = "n9AB1";
    private static final String NINE_NONE = "n9AB1A<BB<A";

    public static void main(String[] args) {
        least();
        leastWithRules();
        first();
        ways();
        rank();
        order();
        all();
        costs();
        bars();
        where();
        places();
        middle();
        leads();
        both();
        must();
        refusedByState();
        refusedByNumbers();
        changesAreSeen();
        CHECK.end();
    }

    private static void least() {
        TiedRow x = Check.worldOf(SMALL);
        int[] want = {3, 2, 1, 2, 1};
        for (int m = 0; m < 5; m++) {
            CHECK.due("least " + m, x.least(m), want[m]);
            CHECK.due("least of no thing", new TiedRow().least(m), 0);
            CHECK.due("least of one thing", Check.worldOf("n1").least(m), 0);
            CHECK.due("least without ties", Check.worldOf("n5").least(m), 0);
        }
        // All ten tied to one another: each order is alike.
        TiedRow ten = Check.worldOf("n10");
        for (int a = 0; a < 10; a++) {
            for (int b = a + 1; b < 10; b++) {
                ten.tie(a, b, 9);
            }
        }
        CHECK.due("least SUM of ten", ten.least(0), 9 * 165);
        CHECK.due("least CUT of ten", ten.least(1), 9 * 25);
        CHECK.due("least HELD of ten", ten.least(2), 9);
        CHECK.due("least PROFILE of ten", ten.least(3), 45);
        CHECK.due("ways of ten", ten.ways(0), 3628800);
        CHECK.due("least LONG of eight", Check.worldOf("n8AB1AC1AD1AE1AF1AG1AH1").least(4), 4);
    }

    private static void leastWithRules() {
        // Allowed are ACB 5 3 2 3 2 and CAB 4 3 2 3 2.
        TiedRow x = Check.worldOf(SMALL + "A<BC<B");
        int[] want = {4, 3, 2, 3, 2};
        for (int m = 0; m < 5; m++) {
            CHECK.due("least " + m + " with rules", x.least(m), want[m]);
        }
        x.off(0, 1);
        x.off(1, 1);
        CHECK.due("least with rules off", x.least(0), 3);
    }

    private static void first() {
        TiedRow x = Check.worldOf(SMALL);
        CHECK.due("first", x.first(0, 4), 3);
        CHECK.dueText("first", Check.letters(x, 4), "ABC");
        x.rule(1, 2, 0, 0);
        CHECK.due("first of C < A", x.first(4, 4), 1);
        CHECK.dueText("first of C < A", Check.letters(x, 4), "CBA");
        x.back(0);
        x.rule(3, 0, 1, 0);
        x.row(4, 60);
        CHECK.due("first of A @ 1", x.first(0, 4), 4);
        CHECK.dueText("first of A @ 1", Check.letters(x, 4), "BAC");
        TiedRow none = new TiedRow();
        CHECK.due("first of no thing", none.first(4, 0), 0);
        CHECK.due("an empty row is there", none.count(5), 1);
        CHECK.dueText("first of no thing", Check.letters(none, 0), "");
    }

    private static void ways() {
        TiedRow x = Check.worldOf(SMALL);
        int[] want = {2, 2, 4, 4, 2};
        for (int m = 0; m < 5; m++) {
            CHECK.due("ways " + m, x.ways(m), want[m]);
            CHECK.due("ways of none that is allowed", Check.worldOf(NONE_ALLOWED).ways(m), 0);
            CHECK.due("ways of no thing", new TiedRow().ways(m), 1);
            CHECK.due("ways without ties", Check.worldOf("n8").ways(m), 40320);
        }
        CHECK.due("ways LONG of eight", Check.worldOf("n8AB1").ways(4), 10080);
        TiedRow none = Check.worldOf(NONE_ALLOWED);
        none.ways(0);
        CHECK.due("ways finds nothing", none.finding(), 0);
    }

    private static void rank() {
        TiedRow x = Check.worldOf(SMALL);
        String[] orders = {"ABC", "ACB", "BAC", "BCA", "CAB", "CBA"};
        int none = TiedRow.NONE;
        int[][] want = {{0, none, none, none, none, 1}, {0, none, none, none, none, 1}, {0, none, 1, 2, none, 3},
            {0, none, 1, 2, none, 3}, {0, none, none, none, none, 1}};
        for (int m = 0; m < 5; m++) {
            for (int i = 0; i < 6; i++) {
                Check.layOrder(x, 0, orders[i]);
                CHECK.due("rank " + m + " of " + orders[i], x.rank(m, 0), want[m][i]);
            }
        }
        x.rule(1, 2, 0, 0);
        Check.layOrder(x, 0, "ABC");
        CHECK.due("rank of one that is not allowed", x.rank(0, 0), none);
        Check.layOrder(x, 0, "CBA");
        CHECK.due("rank of the only one", x.rank(0, 0), 0);
        TiedRow bad = Check.worldOf(NINE_NONE);
        CHECK.finds("rank of none", bad, NOTHING, () -> bad.rank(4, 0));
        bad.row(0, 8);
        CHECK.finds("rank of eight", bad, SIZE, () -> bad.rank(4, 0));
        bad.row(0, 9);
        CHECK.finds("rank of no order", bad, UNLIKE, () -> bad.rank(4, 0));
        Check.layOrder(bad, 0, "ABCDEFGHI");
        CHECK.refuses("rank of nine", bad, TiedRow.SPENT, () -> bad.rank(4, 0));
        CHECK.finds("rank of none that is allowed", bad, NOUGHT, () -> bad.rank(3, 0));
    }

    private static void order() {
        TiedRow x = Check.worldOf(SMALL);
        String[] want = {"ABC", "BAC", "BCA", "CBA"};
        for (int k = 0; k < 4; k++) {
            CHECK.due("order " + k, x.order(2, k, 5), 1);
            CHECK.dueText("order " + k, Check.letters(x, 5), want[k]);
        }
        CHECK.due("order 1 of LONG", x.order(4, 1, 5), 1);
        CHECK.dueText("order 1 of LONG", Check.letters(x, 5), "CBA");
        CHECK.finds("order 4", x, BEYOND, () -> x.order(2, 4, 5));
        CHECK.finds("order 2 of LONG", x, BEYOND, () -> x.order(4, 2, 5));
        CHECK.finds("order HIGH", x, BEYOND, () -> x.order(0, HIGH, 5));
        CHECK.refuses("order -1", x, TiedRow.BAD, () -> x.order(0, -1, 5));
        CHECK.refuses("order LOW", x, TiedRow.BAD, () -> x.order(0, LOW, 5));
        TiedRow free = Check.worldOf("n10");
        free.order(0, 3628799, 0);
        CHECK.dueText("the last of all", Check.letters(free, 0), "JIHGFEDCBA");
        free.order(0, 999999, 0);
        CHECK.dueText("order 999999", Check.letters(free, 0), "CHIDJBFEGA");
        CHECK.due("rank 999999", free.rank(1, 0), 999999);
        TiedRow eight = Check.worldOf("n8");
        eight.order(4, 40319, 0);
        CHECK.dueText("the last of eight", Check.letters(eight, 0), "HGFEDCBA");
        CHECK.due("its rank", eight.rank(4, 0), 40319);
    }

    private static void all() {
        CHECK.due("all of no thing", new TiedRow().all(), 1);
        CHECK.due("all of ten", Check.worldOf("n10").all(), 3628800);
        CHECK.due("all of none that is allowed", Check.worldOf(NONE_ALLOWED).all(), 0);
        CHECK.due("all by AHEAD", Check.worldOf("n4A<B").all(), 12);
        CHECK.due("all by RIGHT", Check.worldOf("n4A+B").all(), 6);
        CHECK.due("all by two RIGHT", Check.worldOf("n4A+BA+C").all(), 0);
        CHECK.due("all by PLACED", Check.worldOf("n4A@3").all(), 6);
        CHECK.due("all by PLACED behind all", Check.worldOf("n4A@4").all(), 0);
        CHECK.due("all by EARLY", Check.worldOf("n4A^1").all(), 12);
        CHECK.due("all by APART", Check.worldOf("n4A!B").all(), 12);
        CHECK.due("all by BETWEEN", Check.worldOf("n4A?BC").all(), 8);
        CHECK.due("all of nine", Check.worldOf("n9A<BB+CI@0").all(), 2520);
    }

    private static void costs() {
        TiedRow x = Check.worldOf(SMALL);
        int[][] want = {{2, 1}, {1, 0}, {0, 0}, {1, 1}, {0, 0}};
        for (int m = 0; m < 5; m++) {
            CHECK.due("costs " + m + " of A B", x.costs(m, 0, 1), want[m][0]);
            CHECK.due("costs " + m + " of C B", x.costs(m, 2, 1), want[m][1]);
            CHECK.due("costs " + m + " of no tie", x.costs(m, 0, 2), 0);
        }
        CHECK.due("the tie is there still", x.tie(0, 1, TiedRow.NONE), 2);
        CHECK.due("least is as it was", x.least(0), 3);
    }

    private static void bars() {
        // Without C < B also ABC, without A < B also CBA: each has SUM 3 instead of 4.
        TiedRow x = Check.worldOf(SMALL + "A<BC<BA^2");
        int[] want = {1, 1, 1, 1, 1};
        for (int m = 0; m < 5; m++) {
            CHECK.due("bars " + m + " by C < B", x.bars(m, 1), want[m]);
            CHECK.due("bars " + m + " by A < B", x.bars(m, 0), want[m]);
            CHECK.due("bars " + m + " by A ^ 2", x.bars(m, 2), 0);
        }
        CHECK.due("least is as it was", x.least(0), 4);
        CHECK.due("none is off", x.count(4), 0);
        x.off(1, 1);
        CHECK.due("bars by one that is off", x.bars(0, 1), 0);
        CHECK.due("it is off still", x.count(4), 1);
        TiedRow none = Check.worldOf(NONE_ALLOWED);
        CHECK.finds("bars where none is allowed", none, NOUGHT, () -> none.bars(0, 0));
    }

    private static void where() {
        TiedRow x = Check.worldOf(SMALL);
        int[][] want = {{3, 4, 3}, {2, 3, 2}, {1, 1, 1}, {2, 2, 2}, {1, 2, 1}};
        for (int m = 0; m < 5; m++) {
            for (int p = 0; p < 3; p++) {
                CHECK.due("where " + m + " of A at " + p, x.where(m, 0, p), want[m][p]);
            }
        }
        CHECK.due("least is as it was", x.least(0), 3);
        CHECK.due("all are as they were", x.all(), 6);
        x.rule(1, 0, 1, 0);
        for (int m = 0; m < 5; m++) {
            CHECK.due("where A can't be", x.where(m, 0, 2), TiedRow.NONE);
        }
        CHECK.due("where finds nothing", x.finding(), 0);
        CHECK.refuses("where at 3", x, TiedRow.BAD, () -> x.where(0, 0, 3));
        CHECK.refuses("where at -1", x, TiedRow.BAD, () -> x.where(0, 0, -1));
        CHECK.refuses("where at HIGH", x, TiedRow.BAD, () -> x.where(0, 0, HIGH));
    }

    private static void places() {
        TiedRow x = Check.worldOf(SMALL);
        int[][] want = {{5, 2, 5}, {5, 2, 5}, {7, 3, 7}, {7, 3, 7}, {5, 2, 5}};
        for (int m = 0; m < 5; m++) {
            for (int a = 0; a < 3; a++) {
                CHECK.due("places " + m + " of " + a, x.places(m, a), want[m][a]);
            }
        }
        CHECK.due("places of the tenth", Check.worldOf("n10J@9").places(0, 9), 512);
        CHECK.due("places of one thing", Check.worldOf("n1").places(4, 0), 1);
    }

    private static void middle() {
        TiedRow x = Check.worldOf(SMALL);
        CHECK.due("middle of A", x.middle(2, 0), 4);
        CHECK.due("upper", x.upper(), 5);
        CHECK.due("lower", x.lower(), 4);
        CHECK.due("middle of B", x.middle(2, 1), 4);
        CHECK.due("upper", x.upper(), 1);
        CHECK.due("lower", x.lower(), 2);
        CHECK.due("middle LONG of B", x.middle(4, 1), 2);
        CHECK.due("upper", x.upper(), 1);
        CHECK.due("lower", x.lower(), 1);
        x.rule(3, 0, 0, 0);
        CHECK.due("middle of A at 0", x.middle(0, 0), 1);
        CHECK.due("upper", x.upper(), 0);
        CHECK.due("lower", x.lower(), 1);
        TiedRow ten = Check.worldOf("n10");
        CHECK.due("middle of ten", ten.middle(0, 4), 3628800);
        CHECK.due("upper", ten.upper(), 9);
        CHECK.due("lower", ten.lower(), 2);
    }

    private static void leads() {
        TiedRow x = Check.worldOf(SMALL);
        int[][] want = {{1, 2, 1, 3}, {2, 1, 1, 1}, {0, 2, 1, 2}, {2, 0, 1, 2}};
        for (int[] w : want) {
            CHECK.due("leads " + w[0] + " " + w[1], x.leads(2, w[0], w[1]), w[2]);
            CHECK.due("in how many", x.asked(), w[3]);
        }
        x.rule(1, 2, 0, 0);
        for (int m = 0; m < 5; m++) {
            CHECK.due("leads in all", x.leads(m, 2, 0), 2);
            CHECK.due("in how many", x.asked(), x.ways(m));
            CHECK.due("leads in none", x.leads(m, 0, 2), 0);
            CHECK.due("in how many", x.asked(), 0);
        }
    }

    private static void both() {
        TiedRow x = Check.worldOf(SMALL);
        int[] least = {3, 2, 1, 2, 1};
        for (int m = 0; m < 5; m++) {
            for (int l = 0; l < 5; l++) {
                CHECK.due("both " + m + " " + l, x.both(m, l), least[l]);
                boolean four = m / 2 == 1 && l / 2 == 1;
                CHECK.due("how many of " + m + " " + l, x.asked(), four ? 4 : 2);
            }
        }
        // A star of five: PROFILE 4 has the middle first or second; SUM of these is least with it second.
        TiedRow star = Check.worldOf("n5AB1AC1AD1AE1");
        CHECK.due("both 3 0 of a star", star.both(3, 0), 7);
        CHECK.due("how many", star.asked(), 24);
        CHECK.due("both 0 3 of a star", star.both(0, 3), 5);
        CHECK.due("how many", star.asked(), 24);
        TiedRow nine = Check.worldOf(NINE);
        CHECK.refuses("both 4 0 of nine", nine, TiedRow.SPENT, () -> nine.both(4, 0));
        CHECK.refuses("both 0 4 of nine", nine, TiedRow.SPENT, () -> nine.both(0, 4));
        CHECK.refuses("both 4 4 of nine", nine, TiedRow.SPENT, () -> nine.both(4, 4));
        CHECK.due("both 0 3 of nine", nine.both(0, 3), 1);
        CHECK.due("how many", nine.asked(), 80640);
        for (int m : NO_MEASURES) {
            CHECK.refuses("both 0 " + m, nine, TiedRow.BAD, () -> nine.both(0, m));
            CHECK.refuses("both 4 " + m, nine, TiedRow.BAD, () -> nine.both(4, m));
        }
    }

    private static void must(String signs, int want, int bits) {
        TiedRow x = Check.worldOf(signs);
        CHECK.due("must of " + signs, x.must(), want);
        CHECK.due("which of " + signs, x.asked(), bits);
        CHECK.due("none is off", x.count(4), 0);
    }

    private static void must() {
        must("n3", 0, 0);
        must("n3A<BB<C", 0, 0);
        must("n3A<BB<CC<A", 1, 1);
        must("n3A@0B<AC<A", 1, 1);
        must("n3B<AC<AA@0", 1, 4);
        must("n3A@0A@1A@2", 2, 3);
        must("n3A@0A@1A@2A@1", 2, 5);
        must("n2A!B", 1, 1);
        must("n2A<BA!B", 1, 2);
        must("n3A+BA+CB?AC", 1, 2);
        must("n3A@9B@9C@9A^0A@8B@8C@8A@7", 7, 247);
        must("n1A@1A@2A@3A@4A@5A@6A@7A@8", 8, 255);
        TiedRow x = Check.worldOf("n3A@0A@1A@2");
        x.off(0, 1);
        CHECK.due("must with one off", x.must(), 1);
        CHECK.due("which with one off", x.asked(), 2);
        TiedRow none = new TiedRow();
        none.rule(0, 0, 0, 0);
        CHECK.due("must of a note", none.must(), 0);
        CHECK.due("least behind must", x.least(0), TiedRow.FINDING);
    }

    /** Every call of least orders where LONG is spent, and where no order is allowed. */
    private static void refusedByState() {
        TiedRow nine = Check.worldOf(NINE_NONE);
        nine.row(0, 2);
        CHECK.refuses("least", nine, TiedRow.SPENT, () -> nine.least(4));
        CHECK.refuses("first", nine, TiedRow.SPENT, () -> nine.first(4, 0));
        CHECK.refuses("ways", nine, TiedRow.SPENT, () -> nine.ways(4));
        CHECK.refuses("order", nine, TiedRow.SPENT, () -> nine.order(4, HIGH, 0));
        CHECK.refuses("costs", nine, TiedRow.SPENT, () -> nine.costs(4, 0, 2));
        CHECK.refuses("bars", nine, TiedRow.SPENT, () -> nine.bars(4, 0));
        CHECK.refuses("where", nine, TiedRow.SPENT, () -> nine.where(4, 0, 0));
        CHECK.refuses("places", nine, TiedRow.SPENT, () -> nine.places(4, 0));
        CHECK.refuses("middle", nine, TiedRow.SPENT, () -> nine.middle(4, 0));
        CHECK.refuses("leads", nine, TiedRow.SPENT, () -> nine.leads(4, 0, 1));
        CHECK.refuses("both", nine, TiedRow.SPENT, () -> nine.both(4, 1));
        CHECK.refuses("both", nine, TiedRow.SPENT, () -> nine.both(1, 4));
        for (int m = 0; m < 5; m++) {
            int l = m;
            TiedRow x = Check.worldOf(NONE_ALLOWED);
            x.row(0, 2);
            CHECK.finds("least", x, NOUGHT, () -> x.least(l));
            CHECK.finds("first", x, NOUGHT, () -> x.first(l, 0));
            CHECK.finds("order", x, NOUGHT, () -> x.order(l, HIGH, 0));
            CHECK.finds("costs", x, NOUGHT, () -> x.costs(l, 0, 1));
            CHECK.finds("costs of no tie", x, NOUGHT, () -> x.costs(l, 0, 2));
            CHECK.finds("bars", x, NOUGHT, () -> x.bars(l, 0));
            CHECK.finds("where", x, NOUGHT, () -> x.where(l, 0, 0));
            CHECK.finds("places", x, NOUGHT, () -> x.places(l, 0));
            CHECK.finds("middle", x, NOUGHT, () -> x.middle(l, 0));
            CHECK.finds("leads", x, NOUGHT, () -> x.leads(l, 0, 1));
            CHECK.finds("both", x, NOUGHT, () -> x.both(l, 1));
            CHECK.finds("both", x, NOUGHT, () -> x.both(1, l));
        }
    }

    /** Numbers that are none: bad ahead of all else, so on the world where all else is refused, too. */
    private static void refusedByNumbers() {
        TiedRow x = Check.worldOf(NINE_NONE);
        for (int m : NO_MEASURES) {
            CHECK.refuses("least " + m, x, TiedRow.BAD, () -> x.least(m));
            CHECK.refuses("first " + m, x, TiedRow.BAD, () -> x.first(m, 0));
            CHECK.refuses("ways " + m, x, TiedRow.BAD, () -> x.ways(m));
            CHECK.refuses("rank " + m, x, TiedRow.BAD, () -> x.rank(m, 0));
            CHECK.refuses("order " + m, x, TiedRow.BAD, () -> x.order(m, 0, 0));
            CHECK.refuses("costs " + m, x, TiedRow.BAD, () -> x.costs(m, 0, 1));
            CHECK.refuses("bars " + m, x, TiedRow.BAD, () -> x.bars(m, 0));
            CHECK.refuses("where " + m, x, TiedRow.BAD, () -> x.where(m, 0, 0));
            CHECK.refuses("places " + m, x, TiedRow.BAD, () -> x.places(m, 0));
            CHECK.refuses("middle " + m, x, TiedRow.BAD, () -> x.middle(m, 0));
            CHECK.refuses("leads " + m, x, TiedRow.BAD, () -> x.leads(m, 0, 1));
            CHECK.refuses("both " + m, x, TiedRow.BAD, () -> x.both(m, 0));
        }
        for (int r : new int[] {-1, 6, LOW, HIGH}) {
            CHECK.refuses("first to " + r, x, TiedRow.BAD, () -> x.first(4, r));
            CHECK.refuses("rank of " + r, x, TiedRow.BAD, () -> x.rank(4, r));
            CHECK.refuses("order to " + r, x, TiedRow.BAD, () -> x.order(4, 0, r));
        }
        for (int a : new int[] {-1, 9, LOW, HIGH}) {
            CHECK.refuses("costs of " + a, x, TiedRow.BAD, () -> x.costs(4, a, 1));
            CHECK.refuses("costs by " + a, x, TiedRow.BAD, () -> x.costs(4, 1, a));
            CHECK.refuses("bars of " + a, x, TiedRow.BAD, () -> x.bars(4, a));
            CHECK.refuses("where of " + a, x, TiedRow.BAD, () -> x.where(4, a, 0));
            CHECK.refuses("where at " + a, x, TiedRow.BAD, () -> x.where(4, 0, a));
            CHECK.refuses("places of " + a, x, TiedRow.BAD, () -> x.places(4, a));
            CHECK.refuses("middle of " + a, x, TiedRow.BAD, () -> x.middle(4, a));
            CHECK.refuses("leads of " + a, x, TiedRow.BAD, () -> x.leads(4, a, 1));
            CHECK.refuses("leads by " + a, x, TiedRow.BAD, () -> x.leads(4, 1, a));
        }
        CHECK.refuses("costs of alike", x, TiedRow.BAD, () -> x.costs(4, 1, 1));
        CHECK.refuses("leads of alike", x, TiedRow.BAD, () -> x.leads(4, 1, 1));
        CHECK.refuses("bars of no rule", x, TiedRow.BAD, () -> x.bars(0, 2));
    }

    /** What was found of a world is not told of the next one. */
    private static void changesAreSeen() {
        TiedRow x = Check.worldOf(SMALL);
        for (int m = 0; m < 5; m++) {
            int least = x.least(m);
            x.tie(0, 2, 9);
            CHECK.holds("a tie is seen by " + m, x.least(m) > least || m == 2);
            x.tie(0, 2, 0);
            CHECK.due("it is gone again", x.least(m), least);
            x.rule(1, 2, 0, 0);
            CHECK.holds("a rule is seen by " + m, x.ways(m) < 3);
            x.off(0, 1);
            CHECK.holds("it is off", x.ways(m) == (m / 2 == 1 ? 4 : 2));
            x.off(0, 0);
            CHECK.holds("it is on", x.ways(m) < 3);
            x.back(0);
            CHECK.holds("it is gone", x.ways(m) == (m / 2 == 1 ? 4 : 2));
            x.image(0);
            x.lay(0, 1, 9);
            x.on(0);
            CHECK.holds("an image is seen by " + m, x.least(m) > least || m == 2);
            x.world(3);
            CHECK.due("a world is seen", x.least(m), least);
            x.must();
            CHECK.due("must leaves it", x.least(m), least);
            x.both(m, 4);
            x.both(4, m);
            x.all();
            CHECK.due("both, all leave it", x.least(m), least);
        }
    }
}
