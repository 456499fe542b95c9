/** Promises 21 to 26: the least of a measure, the orders that have it. */
public final class LeastTest {
    private static final int HIGH = Check.HIGH, LOW = Check.LOW;
    private static final int BAD = TiedRow.BAD, SPENT = TiedRow.SPENT, NONE = TiedRow.NONE;
    private static final int NOTHING = Check.NOTHING, BEYOND = Check.BEYOND, UNLIKE = Check.UNLIKE, NOUGHT = Check.NOUGHT,
        SIZE = Check.SIZE;
    private static final int SUM = 0, CUT = 1, HELD = 2, PROFILE = 3, LONG = 4;
    private static final int[] NO_ROWS = Check.outside(0, 5), NO_MEASURES = Check.outside(0, 4);

    /** Its orders by SUM CUT HELD PROFILE LONG: ABC 3 2 1 2 1, ACB 5 3 2 3 2, BAC 4 3 1 2 2 and their mirrors. */
    private static final String SMALL = "n3 AB2 BC1";
    /** Its rules contradict one another. */
    private static final String NONE_ALLOWED = "n3 AB2 BC1 A<B B<A";
    private static final String NINE_NONE = "n9 AB1 A<B B<A";
    private static final Check CHECK = new Check("LeastTest");

    public static void main(String[] args) {
        leastOfAllowed();
        oneBehindTheOther();
        least();
        leastRefused();
        first();
        firstRefused();
        ways();
        waysRefused();
        rank();
        rankRefused();
        order();
        orderRefused();
        all();
        changesAreSeen();
        CHECK.end();
    }

    private static void leasts(TiedRow x, String what, int... want) {
        for (int m = 0; m < 5; m++) {
            int measure = m;
            CHECK.answers("least(" + m + ") " + what, x, want[m], () -> x.least(measure));
        }
    }

    private static void leastOfAllowed() {
        CHECK.says(0, "LEAST of a MEASURE is the least of all ALLOWED ORDERS; LEAST ORDERS have it;");
        TiedRow x = Check.worldOf(SMALL);
        leasts(x, "of all", 3, 2, 1, 2, 1);
        // Allowed are ACB 5 3 2 3 2 and CAB 4 3 2 3 2.
        x.rule(1, 0, 1, 0);
        x.rule(1, 2, 1, 0);
        leasts(x, "of two", 4, 3, 2, 3, 2);
        int[] ways = {1, 2, 2, 2, 2};
        for (int m = 0; m < 5; m++) {
            CHECK.due("ways(" + m + ") of two", x.ways(m), ways[m]);
        }
        x.rule(3, 0, 0, 0);
        leasts(x, "of ACB alone", 5, 3, 2, 3, 2);
        x.off(0, 1);
        x.off(1, 1);
        x.off(2, 1);
        leasts(x, "with all rules off", 3, 2, 1, 2, 1);
        // Each kind of rule, by the last things, F to H, which are tied: without it LONG is 1 and SUM is 2.
        String tied = "n8 FG1 GH1 ";
        String[] rules = {"H<F", "H+F", "G@7", "G^0", "F!G", "F?GH"};
        int[] longs = {1, 2, 2, 2, 2, 2};
        int[] sums = {2, 3, 3, 3, 3, 3};
        for (int i = 0; i < rules.length; i++) {
            TiedRow y = Check.worldOf(tied + rules[i]);
            CHECK.due("least LONG by " + rules[i], y.least(LONG), longs[i]);
            CHECK.due("least SUM by " + rules[i], y.least(SUM), sums[i]);
            y.off(0, 1);
            CHECK.due("least LONG, it being off", y.least(LONG), 1);
            CHECK.due("least SUM, it being off", y.least(SUM), 2);
        }
    }

    private static void oneBehindTheOther() {
        CHECK.says(0, "they come one behind the other by places (the lesser THING first).");
        TiedRow x = Check.worldOf("n3");
        String[] orders = {"ABC", "ACB", "BAC", "BCA", "CAB", "CBA"};
        for (int m = 0; m < 5; m++) {
            for (int k = 0; k < 6; k++) {
                CHECK.due("order", x.order(m, k, 0), 1);
                CHECK.showsOrder("order " + k + " of measure " + m, x, 0, orders[k]);
                CHECK.due("rank " + k + " of measure " + m, x.rank(m, 0), k);
            }
        }
        TiedRow ten = Check.worldOf("n10");
        for (int m = 0; m < 4; m++) {
            ten.order(m, 0, 0);
            CHECK.showsOrder("the first of ten", ten, 0, "ABCDEFGHIJ");
            ten.order(m, 1, 0);
            CHECK.showsOrder("the second of ten", ten, 0, "ABCDEFGHJI");
            ten.order(m, 3628799, 0);
            CHECK.showsOrder("the last of ten", ten, 0, "JIHGFEDCBA");
            CHECK.due("its rank", ten.rank(m, 0), 3628799);
        }
    }

    // ---- 21 least

    private static void least() {
        CHECK.says(21, "LEAST of a MEASURE.");
        leasts(new TiedRow(), "of no thing", 0, 0, 0, 0, 0);
        leasts(Check.worldOf("n1"), "of one thing", 0, 0, 0, 0, 0);
        leasts(Check.worldOf("n8"), "without ties", 0, 0, 0, 0, 0);
        leasts(Check.worldOf("n2 AB9"), "of two things", 9, 9, 1, 1, 1);
        leasts(Check.worldOf("n8 AB1AC1AD1AE1AF1AG1AH1"), "of a star of eight", 16, 4, 1, 7, 4);
        TiedRow ten = Check.worldOf("n10");
        for (int a = 0; a < 10; a++) {
            for (int b = a + 1; b < 10; b++) {
                ten.tie(a, b, 9);
            }
        }
        // As much as may be: each order is alike.
        CHECK.due("SUM of ten", ten.least(SUM), 9 * 165);
        CHECK.due("CUT of ten", ten.least(CUT), 9 * 25);
        CHECK.due("HELD of ten", ten.least(HELD), 9);
        CHECK.due("PROFILE of ten", ten.least(PROFILE), 45);
    }

    private static void leastRefused() {
        CHECK.says(21, "BAD; SPENT;");
        TiedRow nine = Check.rich(NINE_NONE);
        for (int m : NO_MEASURES) {
            CHECK.refuses("least(" + m + ")", nine, BAD, () -> nine.least(m));
        }
        CHECK.refuses("LONG of nine", nine, SPENT, () -> nine.least(LONG));
        CHECK.says(21, "NOUGHT: no ORDER is ALLOWED.");
        TiedRow x = Check.rich(NONE_ALLOWED);
        TiedRow beyond = Check.rich("n3 AB2 A@3");
        for (int m = 0; m < 5; m++) {
            int measure = m;
            CHECK.finds("least(" + m + ")", x, NOUGHT, () -> x.least(measure));
            CHECK.finds("least(" + m + ") behind all", beyond, NOUGHT, () -> beyond.least(measure));
        }
        CHECK.finds("of nine", nine, NOUGHT, () -> nine.least(SUM));
        beyond.back(0);
        beyond.rule(3, 0, 2, 0);
        CHECK.due("at the last place", beyond.least(SUM), 2);
    }

    // ---- 22 first

    private static void first() {
        CHECK.says(22, "The first LEAST ORDER of a MEASURE comes to a ROW (anew): LEAST.");
        int[] least = {3, 2, 1, 2, 1};
        for (int m = 0; m < 5; m++) {
            for (int r = 0; r < 6; r++) {
                TiedRow x = Check.rich(SMALL);
                CHECK.due("first(" + m + ", " + r + ")", x.first(m, r), least[m]);
                CHECK.due("asked() stays", x.asked(), Check.RICH_ASKED);
                CHECK.showsOrder("first(" + m + ", " + r + ")", x, r, "ABC");
            }
        }
        TiedRow x = Check.rich(SMALL);
        x.rule(1, 2, 0, 0);
        CHECK.due("first by C < A", x.first(LONG, 4), 1);
        CHECK.showsOrder("first by C < A", x, 4, "CBA");
        x.back(0);
        x.rule(3, 0, 1, 0);
        CHECK.due("first by A @ 1", x.first(SUM, 4), 4);
        CHECK.showsOrder("first by A @ 1", x, 4, "BAC");
        for (int m = 0; m < 5; m++) {
            TiedRow none = Check.rich("");
            CHECK.due("first of no thing", none.first(m, 4), 0);
            CHECK.showsOrder("first of no thing", none, 4, "");
            TiedRow missing = new TiedRow();
            missing.first(m, 5);
            CHECK.due("an empty row is there", missing.count(5), 1);
        }
    }

    private static void firstRefused() {
        CHECK.says(22, "BAD; SPENT; NOUGHT.");
        TiedRow nine = Check.rich(NINE_NONE);
        for (int m : NO_MEASURES) {
            CHECK.refuses("first(" + m + ", 0)", nine, BAD, () -> nine.first(m, 0));
        }
        for (int r : NO_ROWS) {
            CHECK.refuses("first(0, " + r + ")", nine, BAD, () -> nine.first(SUM, r));
            CHECK.refuses("first(4, " + r + ")", nine, BAD, () -> nine.first(LONG, r));
        }
        CHECK.refuses("LONG of nine", nine, SPENT, () -> nine.first(LONG, 4));
        TiedRow x = Check.rich(NONE_ALLOWED);
        for (int m = 0; m < 5; m++) {
            int measure = m;
            CHECK.finds("first(" + m + ", 4)", x, NOUGHT, () -> x.first(measure, 4));
            CHECK.finds("first(" + m + ", 5)", x, NOUGHT, () -> x.first(measure, 5));
        }
    }

    // ---- 23 ways

    private static void ways() {
        CHECK.says(23, "How many LEAST ORDERS a MEASURE has;");
        int[] want = {2, 2, 4, 4, 2};
        for (int m = 0; m < 5; m++) {
            int measure = m;
            TiedRow x = Check.rich(SMALL);
            CHECK.answers("ways(" + m + ")", x, want[m], () -> x.ways(measure));
            CHECK.due("of no thing", new TiedRow().ways(m), 1);
            CHECK.due("of one thing", Check.worldOf("n1").ways(m), 1);
            CHECK.due("of eight without ties", Check.worldOf("n8").ways(m), 40320);
            CHECK.due("of one alone", Check.worldOf("n3 A<B B<C").ways(m), 1);
        }
        CHECK.due("LONG of eight", Check.worldOf("n8 GH1").ways(LONG), 10080);
        CHECK.due("as many as may be", Check.worldOf("n10").ways(SUM), 3628800);
        CHECK.says(23, "0: none is ALLOWED.");
        for (int m = 0; m < 5; m++) {
            int measure = m;
            TiedRow x = Check.rich(NONE_ALLOWED);
            // That is an answer, and no finding.
            CHECK.answers("ways(" + m + ")", x, 0, () -> x.ways(measure));
        }
    }

    private static void waysRefused() {
        CHECK.says(23, "BAD; SPENT.");
        TiedRow nine = Check.rich(NINE_NONE);
        for (int m : NO_MEASURES) {
            CHECK.refuses("ways(" + m + ")", nine, BAD, () -> nine.ways(m));
        }
        CHECK.refuses("LONG of nine", nine, SPENT, () -> nine.ways(LONG));
        CHECK.answers("SUM of nine", nine, 0, () -> nine.ways(SUM));
    }

    // ---- 24 rank

    private static void rank() {
        CHECK.says(24, "How many LEAST ORDERS of a MEASURE come ahead of an ORDER in a ROW.");
        TiedRow x = Check.worldOf(SMALL);
        String[] orders = {"ABC", "ACB", "BAC", "BCA", "CAB", "CBA"};
        int[][] want = {{0, NONE, NONE, NONE, NONE, 1}, {0, NONE, NONE, NONE, NONE, 1}, {0, NONE, 1, 2, NONE, 3},
            {0, NONE, 1, 2, NONE, 3}, {0, NONE, NONE, NONE, NONE, 1}};
        for (int m = 0; m < 5; m++) {
            int measure = m;
            for (int i = 0; i < 6; i++) {
                Check.layOrder(x, 5, orders[i]);
                CHECK.answers("rank " + m + " of " + orders[i], x, want[m][i], () -> x.rank(measure, 5));
            }
            TiedRow none = Check.rich("");
            CHECK.answers("of no thing", none, 0, () -> none.rank(measure, 0));
        }
        TiedRow eight = Check.worldOf("n8");
        Check.layOrder(eight, 0, "HGFEDCBA");
        CHECK.due("LONG, the last of eight", eight.rank(LONG, 0), 40319);
        TiedRow ten = Check.worldOf("n10");
        Check.layOrder(ten, 0, "CHIDJBFEGA");
        CHECK.due("999999 are ahead of it", ten.rank(CUT, 0), 999999);
        CHECK.says(24, "NONE: it is no LEAST one.");
        x.rule(1, 2, 0, 0);
        Check.layOrder(x, 5, "ABC");
        CHECK.answers("it is not allowed", x, NONE, () -> x.rank(SUM, 5));
        CHECK.answers("LONG: it is not allowed", x, NONE, () -> x.rank(LONG, 5));
        Check.layOrder(x, 5, "CAB");
        CHECK.answers("it is not the least", x, NONE, () -> x.rank(SUM, 5));
        CHECK.answers("LONG: it is not the least", x, NONE, () -> x.rank(LONG, 5));
        Check.layOrder(x, 5, "CBA");
        CHECK.answers("the only one", x, 0, () -> x.rank(SUM, 5));
        CHECK.answers("LONG: the only one", x, 0, () -> x.rank(LONG, 5));
    }

    private static void rankRefused() {
        CHECK.says(24, "BAD; NOTHING; SIZE; UNLIKE; SPENT; NOUGHT.");
        TiedRow x = Check.rich(NONE_ALLOWED);
        for (int r : NO_ROWS) {
            CHECK.refuses("rank(0, " + r + ")", x, BAD, () -> x.rank(SUM, r));
        }
        for (int m : NO_MEASURES) {
            CHECK.refuses("rank(" + m + ", 0)", x, BAD, () -> x.rank(m, 0));
        }
        for (int m = 0; m < 5; m++) {
            int measure = m;
            CHECK.finds("a missing one", x, NOTHING, () -> x.rank(measure, 5));
            CHECK.finds("of four", x, SIZE, () -> x.rank(measure, 2));
            CHECK.finds("no order", x, UNLIKE, () -> x.rank(measure, 3));
            CHECK.finds("none is allowed", x, NOUGHT, () -> x.rank(measure, 0));
        }
        CHECK.says(24, "(In this order.)");
        TiedRow nine = Check.rich(NINE_NONE);
        for (int m : NO_MEASURES) {
            for (int r : new int[] {5, 2, 3, 0}) {
                CHECK.refuses("rank(" + m + ", " + r + ")", nine, BAD, () -> nine.rank(m, r));
            }
        }
        CHECK.finds("of a missing one", nine, NOTHING, () -> nine.rank(LONG, 5));
        CHECK.finds("of ten", nine, SIZE, () -> nine.rank(LONG, 2));
        Check.layRow(nine, 2, 99);
        CHECK.finds("of one that is none", nine, SIZE, () -> nine.rank(LONG, 2));
        CHECK.finds("of no order", nine, UNLIKE, () -> nine.rank(LONG, 3));
        CHECK.refuses("of LONG", nine, SPENT, () -> nine.rank(LONG, 0));
        CHECK.finds("of SUM", nine, NOUGHT, () -> nine.rank(SUM, 0));
    }

    // ---- 25 order

    private static void order() {
        CHECK.says(25, "LEAST ORDER k (0 the first) of a MEASURE comes to a ROW (anew): 1.");
        String[] want = {"ABC", "BAC", "BCA", "CBA"};
        for (int k = 0; k < 4; k++) {
            for (int r = 0; r < 6; r++) {
                TiedRow x = Check.rich(SMALL);
                CHECK.due("order(2, " + k + ", " + r + ")", x.order(HELD, k, r), 1);
                CHECK.due("asked() stays", x.asked(), Check.RICH_ASKED);
                CHECK.showsOrder("order " + k, x, r, want[k]);
                CHECK.due("its rank", x.rank(HELD, r), k);
            }
        }
        TiedRow x = Check.rich(SMALL);
        CHECK.due("order 1 of LONG", x.order(LONG, 1, 4), 1);
        CHECK.showsOrder("order 1 of LONG", x, 4, "CBA");
        TiedRow ten = Check.worldOf("n10");
        ten.order(SUM, 999999, 0);
        CHECK.showsOrder("order 999999", ten, 0, "CHIDJBFEGA");
        TiedRow eight = Check.worldOf("n8");
        eight.order(LONG, 40319, 0);
        CHECK.showsOrder("LONG, the last of eight", eight, 0, "HGFEDCBA");
        TiedRow none = Check.rich("");
        CHECK.due("of no thing", none.order(LONG, 0, 4), 1);
        CHECK.showsOrder("of no thing", none, 4, "");
    }

    private static void orderRefused() {
        CHECK.says(25, "BAD: also k below 0;");
        TiedRow nine = Check.rich(NINE_NONE);
        for (int k : new int[] {-1, LOW}) {
            CHECK.refuses("order(0, " + k + ", 0)", nine, BAD, () -> nine.order(SUM, k, 0));
            CHECK.refuses("order(4, " + k + ", 0)", nine, BAD, () -> nine.order(LONG, k, 0));
        }
        for (int m : NO_MEASURES) {
            CHECK.refuses("order(" + m + ", 0, 0)", nine, BAD, () -> nine.order(m, 0, 0));
        }
        for (int r : NO_ROWS) {
            CHECK.refuses("order(0, 0, " + r + ")", nine, BAD, () -> nine.order(SUM, 0, r));
            CHECK.refuses("order(4, 0, " + r + ")", nine, BAD, () -> nine.order(LONG, 0, r));
        }
        CHECK.says(25, "SPENT; NOUGHT;");
        CHECK.refuses("LONG of nine", nine, SPENT, () -> nine.order(LONG, 0, 4));
        TiedRow none = Check.rich(NONE_ALLOWED);
        for (int m = 0; m < 5; m++) {
            int measure = m;
            CHECK.finds("none is allowed", none, NOUGHT, () -> none.order(measure, 0, 4));
        }
        CHECK.says(25, "BEYOND: not so many.");
        int[] ways = {2, 2, 4, 4, 2};
        for (int m = 0; m < 5; m++) {
            int measure = m;
            TiedRow x = Check.rich(SMALL);
            CHECK.finds("one too many", x, BEYOND, () -> x.order(measure, ways[measure], 4));
            CHECK.finds("HIGH", x, BEYOND, () -> x.order(measure, HIGH, 5));
            CHECK.due("the last one", x.order(m, ways[m] - 1, 4), 1);
        }
        TiedRow ten = Check.rich("n10");
        CHECK.finds("one more than may be", ten, BEYOND, () -> ten.order(SUM, 3628800, 0));
        CHECK.due("as many as may be", ten.order(SUM, 3628799, 0), 1);
        TiedRow empty = Check.rich("");
        CHECK.finds("a second one of no thing", empty, BEYOND, () -> empty.order(LONG, 1, 0));
        CHECK.says(25, "(In this order.)");
        CHECK.refuses("BAD, though SPENT", nine, BAD, () -> nine.order(LONG, -1, 6));
        CHECK.refuses("SPENT, though NOUGHT", nine, SPENT, () -> nine.order(LONG, HIGH, 4));
        CHECK.finds("NOUGHT, though BEYOND", nine, NOUGHT, () -> nine.order(SUM, HIGH, 4));
    }

    // ---- 26 all

    private static void all(String signs, int want) {
        TiedRow x = Check.rich(signs);
        CHECK.answers("all of '" + signs + "'", x, want, x::all);
    }

    private static void all() {
        CHECK.says(26, "How many ORDERS are ALLOWED;");
        int orders = 1;
        all("", 1);
        for (int n = 1; n <= 10; n++) {
            orders *= n;
            all("n" + n, orders);
        }
        all("n10 I<J", 1814400);
        all("n4 A+B", 6);
        all("n4 D+C", 6);
        all("n4 A@3", 6);
        all("n4 C^1", 12);
        all("n4 D!B", 12);
        all("n4 C?BD", 8);
        all("n9 A<BB+CI@0", 2520);
        all("n3 AB2 BC1 A<B B<C", 1);
        CHECK.says(26, "0: none.");
        all(NONE_ALLOWED, 0);
        all("n4 A+BA+C", 0);
        all("n4 A@4", 0);
        all("n1 A@1", 0);
        all("n2 A!B", 0);
        all(NINE_NONE, 0);
    }

    /** What was found of a world is not told of the next one. */
    private static void changesAreSeen() {
        CHECK.saysNoMore();
        TiedRow x = Check.worldOf(SMALL);
        for (int m = 0; m < 5; m++) {
            int least = x.least(m);
            boolean byCount = m == HELD || m == PROFILE;
            x.tie(0, 2, 9);
            CHECK.holds("a tie is seen by " + m, x.least(m) > least || m == HELD);
            x.tie(0, 2, 0);
            CHECK.due("it is gone again", x.least(m), least);
            x.rule(1, 2, 0, 0);
            CHECK.holds("a rule is seen by " + m, x.ways(m) < 3);
            x.off(0, 1);
            CHECK.due("it is off", x.ways(m), byCount ? 4 : 2);
            x.off(0, 0);
            CHECK.holds("it is on", x.ways(m) < 3);
            x.back(0);
            CHECK.due("it is gone", x.ways(m), byCount ? 4 : 2);
            x.image(0);
            x.lay(0, 1, 9);
            x.on(0);
            CHECK.holds("an image is seen by " + m, x.least(m) > least || m == HELD);
            x.world(3);
            CHECK.due("a world is seen", x.least(m), least);
            x.must();
            CHECK.due("must leaves it", x.least(m), least);
            x.where(m, 0, 1);
            CHECK.due("where leaves it", x.least(m), least);
            CHECK.due("where leaves their number", x.ways(m), byCount ? 4 : 2);
            x.both(m, LONG);
            x.both(LONG, m);
            x.all();
            CHECK.due("both, all leave it", x.least(m), least);
        }
    }
}
