/** Promises 28 to 35: what ties and rules cost, where things can be. */
public final class CostsTest {
    private static final int HIGH = Check.HIGH, LOW = Check.LOW;
    private static final int BAD = TiedRow.BAD, SPENT = TiedRow.SPENT, NONE = TiedRow.NONE;
    private static final int NOUGHT = Check.NOUGHT;
    private static final int SUM = 0, CUT = 1, HELD = 2, PROFILE = 3, LONG = 4;
    private static final int[] NO_MEASURES = Check.outside(0, 4);

    /** Its orders by SUM CUT HELD PROFILE LONG: ABC 3 2 1 2 1, ACB 5 3 2 3 2, BAC 4 3 1 2 2 and their mirrors. */
    private static final String SMALL = "n3 AB2 BC1";
    /** Its rules contradict one another. */
    private static final String NONE_ALLOWED = "n3 AB2 BC1 A<B B<A";
    private static final String NINE_NONE = "n9 AB1 A<B B<A";
    private static final Check CHECK = new Check("CostsTest");

    public static void main(String[] args) {
        costs();
        costsRefused();
        bars();
        barsRefused();
        where();
        whereRefused();
        places();
        placesRefused();
        middle();
        middleRefused();
        leads();
        leadsRefused();
        both();
        bothRefused();
        must();
        mustAgain();
        CHECK.end();
    }

    private interface ByMeasure {
        int on(TiedRow x, int m);
    }

    /** Bad by measures, spent of LONG though none is allowed, and nought of each measure. */
    private static void refused(String what, ByMeasure call) {
        TiedRow nine = Check.rich(NINE_NONE);
        for (int m : NO_MEASURES) {
            CHECK.refuses(what + " by measure " + m, nine, BAD, () -> call.on(nine, m));
        }
        CHECK.refuses(what + ", LONG of nine", nine, SPENT, () -> call.on(nine, LONG));
        CHECK.finds(what + ", SUM of nine", nine, NOUGHT, () -> call.on(nine, SUM));
        TiedRow x = Check.rich(NONE_ALLOWED);
        for (int m = 0; m < 5; m++) {
            int measure = m;
            CHECK.finds(what + " by measure " + m + ", none being allowed", x, NOUGHT, () -> call.on(x, measure));
        }
    }

    /** Each number that is none is bad, by LONG of nine things and by SUM, though none is allowed. */
    private static void bad(String what, int[] numbers, ByNumber call) {
        TiedRow nine = Check.rich(NINE_NONE);
        for (int number : numbers) {
            CHECK.refuses(what + " " + number, nine, BAD, () -> call.on(nine, SUM, number));
            CHECK.refuses(what + " " + number + " by LONG", nine, BAD, () -> call.on(nine, LONG, number));
        }
    }

    private interface ByNumber {
        int on(TiedRow x, int m, int number);
    }

    // ---- 28 costs

    private static void costs() {
        CHECK.says(28, "By how much LEAST is less without the TIE of two THINGS");
        int[][] want = {{2, 1}, {1, 0}, {0, 0}, {1, 1}, {0, 0}};
        for (int m = 0; m < 5; m++) {
            int measure = m;
            TiedRow x = Check.rich(SMALL);
            CHECK.answers("costs(" + m + ", A, B)", x, want[m][0], () -> x.costs(measure, 0, 1));
            CHECK.answers("costs(" + m + ", B, A)", x, want[m][0], () -> x.costs(measure, 1, 0));
            CHECK.answers("costs(" + m + ", C, B)", x, want[m][1], () -> x.costs(measure, 2, 1));
            CHECK.due("the tie is there still", x.tie(0, 1, NONE), 2);
        }
        TiedRow ten = Check.worldOf("n10 IJ9");
        CHECK.due("all that there is, SUM", ten.costs(SUM, 8, 9), 9);
        CHECK.due("all that there is, CUT", ten.costs(CUT, 9, 8), 9);
        CHECK.due("LONG of eight", Check.worldOf("n8 GH1 G@0 H@7").costs(LONG, 6, 7), 7);
        CHECK.says(28, "(0: there is none).");
        for (int m = 0; m < 5; m++) {
            int measure = m;
            TiedRow x = Check.rich(SMALL);
            CHECK.answers("costs(" + m + ", A, C)", x, 0, () -> x.costs(measure, 0, 2));
        }
    }

    private static void costsRefused() {
        CHECK.says(28, "BAD; SPENT; NOUGHT.");
        refused("costs of a tie", (x, m) -> x.costs(m, 0, 1));
        refused("costs of no tie", (x, m) -> x.costs(m, 0, 2));
        bad("costs of A and", Check.outside(0, 8), (x, m, b) -> x.costs(m, 0, b));
        bad("costs of B and", Check.outside(0, 8), (x, m, a) -> x.costs(m, a, 1));
        bad("costs of alike ones", new int[] {0, 1, 8}, (x, m, a) -> x.costs(m, a, a));
        TiedRow none = new TiedRow();
        CHECK.refuses("without things", none, BAD, () -> none.costs(SUM, 0, 1));
        TiedRow one = Check.rich("n1");
        CHECK.refuses("of one thing", one, BAD, () -> one.costs(SUM, 0, 0));
    }

    // ---- 29 bars

    private static void bars() {
        CHECK.says(29, "By how much LEAST is less with a RULE OFF");
        // Without C < B also ABC, without A < B also CBA.
        for (int m = 0; m < 5; m++) {
            int measure = m;
            TiedRow x = Check.rich(SMALL + " A<B C<B A^2");
            CHECK.answers("bars(" + m + ") of A < B", x, 1, () -> x.bars(measure, 0));
            CHECK.answers("bars(" + m + ") of C < B", x, 1, () -> x.bars(measure, 1));
            CHECK.answers("bars(" + m + ") of A ^ 2", x, 0, () -> x.bars(measure, 2));
        }
        TiedRow eight = Check.rich("n10 AB9 A@0 A@0 A^9 A!B A!B A!B B@9 A!C");
        CHECK.answers("the seventh, SUM", eight, 9 * 7, () -> eight.bars(SUM, 6));
        CHECK.answers("the eighth", eight, 0, () -> eight.bars(SUM, 7));
        CHECK.due("a note", note().bars(LONG, 0), 0);
        CHECK.says(29, "(OFF already: 0).");
        for (int m = 0; m < 5; m++) {
            int measure = m;
            TiedRow x = Check.rich(SMALL + " A<B C<B");
            x.off(1, 1);
            CHECK.answers("bars(" + m + ") of one that is off", x, 0, () -> x.bars(measure, 1));
            CHECK.due("it is off still", x.off(1, 0), 1);
            CHECK.due("the other one is not", x.off(0, 0), 0);
        }
    }

    private static TiedRow note() {
        TiedRow x = new TiedRow();
        x.rule(0, 0, 0, 0);
        return x;
    }

    private static void barsRefused() {
        CHECK.says(29, "BAD; SPENT; NOUGHT.");
        refused("bars of a rule", (x, m) -> x.bars(m, 1));
        bad("bars of rule", Check.outside(0, 1), (x, m, k) -> x.bars(m, k));
        TiedRow x = Check.rich(NONE_ALLOWED + " A!C");
        x.off(2, 1);
        CHECK.finds("one that is off, none being allowed", x, NOUGHT, () -> x.bars(SUM, 2));
        TiedRow none = new TiedRow();
        CHECK.refuses("without rules", none, BAD, () -> none.bars(SUM, 0));
    }

    // ---- 30 where

    private static void where() {
        CHECK.says(30, "LEAST of all ALLOWED ORDERS that have a THING at a place.");
        int[][] ofA = {{3, 4, 3}, {2, 3, 2}, {1, 1, 1}, {2, 2, 2}, {1, 2, 1}};
        int[][] ofB = {{4, 3, 4}, {3, 2, 3}, {1, 1, 2}, {2, 2, 3}, {2, 1, 2}};
        for (int m = 0; m < 5; m++) {
            int measure = m;
            TiedRow x = Check.rich(SMALL);
            for (int p = 0; p < 3; p++) {
                int place = p;
                CHECK.answers("where " + m + " of A at " + p, x, ofA[m][p], () -> x.where(measure, 0, place));
                CHECK.due("least is as it was", x.least(m), new int[] {3, 2, 1, 2, 1}[m]);
                CHECK.answers("where " + m + " of B at " + p, x, ofB[m][p], () -> x.where(measure, 1, place));
            }
            CHECK.due("all are as they were", x.all(), 6);
        }
        TiedRow ten = Check.worldOf("n10 AJ1 A@0");
        CHECK.due("the last at the last place", ten.where(SUM, 9, 9), 9);
        CHECK.due("the last at place 1", ten.where(SUM, 9, 1), 1);
        CHECK.due("one alone", Check.worldOf("n1").where(LONG, 0, 0), 0);
        CHECK.says(30, "NONE: none.");
        for (int m = 0; m < 5; m++) {
            int measure = m;
            TiedRow x = Check.rich(SMALL + " A<B");
            CHECK.answers("A can't be last", x, NONE, () -> x.where(measure, 0, 2));
            CHECK.answers("B can't be first", x, NONE, () -> x.where(measure, 1, 0));
            CHECK.answers("but in the middle", x, new int[] {4, 3, 2, 3, 2}[m], () -> x.where(measure, 0, 1));
        }
    }

    private static void whereRefused() {
        CHECK.says(30, "BAD; SPENT; NOUGHT.");
        refused("where", (x, m) -> x.where(m, 0, 0));
        bad("where of thing", Check.outside(0, 8), (x, m, a) -> x.where(m, a, 0));
        bad("where at place", Check.outside(0, 8), (x, m, p) -> x.where(m, 0, p));
        TiedRow ten = Check.rich("n10");
        for (int p : Check.outside(0, 9)) {
            CHECK.refuses("place " + p + " of ten", ten, BAD, () -> ten.where(SUM, 0, p));
        }
        TiedRow none = Check.rich("");
        CHECK.refuses("without things", none, BAD, () -> none.where(SUM, 0, 0));
    }

    // ---- 31 places

    private static void places() {
        CHECK.says(31, "Places (bits) that a THING has in LEAST ORDERS of a MEASURE.");
        int[][] want = {{5, 2, 5}, {5, 2, 5}, {7, 3, 7}, {7, 3, 7}, {5, 2, 5}};
        for (int m = 0; m < 5; m++) {
            int measure = m;
            TiedRow x = Check.rich(SMALL);
            for (int a = 0; a < 3; a++) {
                int thing = a;
                CHECK.answers("places " + m + " of " + a, x, want[m][a], () -> x.places(measure, thing));
            }
        }
        CHECK.due("the tenth at the last place", Check.worldOf("n10 J@9").places(SUM, 9), 512);
        CHECK.due("the tenth at the first", Check.worldOf("n10 J@0").places(SUM, 9), 1);
        CHECK.due("anywhere", Check.worldOf("n10").places(SUM, 9), 1023);
        CHECK.due("LONG, anywhere", Check.worldOf("n8").places(LONG, 7), 255);
        CHECK.due("one thing", Check.worldOf("n1").places(LONG, 0), 1);
    }

    private static void placesRefused() {
        CHECK.says(31, "BAD; SPENT; NOUGHT.");
        refused("places", (x, m) -> x.places(m, 8 % x.count(0)));
        bad("places of", Check.outside(0, 8), (x, m, a) -> x.places(m, a));
        TiedRow none = Check.rich("");
        CHECK.refuses("without things", none, BAD, () -> none.places(SUM, 0));
    }

    // ---- 32 middle

    private static void middled(TiedRow x, int m, int a, int number, int upper, int lower) {
        CHECK.due("middle(" + m + ", " + a + ")", x.middle(m, a), number);
        CHECK.due("upper of " + a + " by " + m, x.upper(), upper);
        CHECK.due("lower of " + a + " by " + m, x.lower(), lower);
    }

    private static void middle() {
        CHECK.says(32, "The mean place of a THING over LEAST ORDERS of a MEASURE, told by upper(), lower(): how many these are.");
        TiedRow x = Check.rich(SMALL);
        // HELD and PROFILE: ABC BAC BCA CBA.
        for (int m : new int[] {HELD, PROFILE}) {
            middled(x, m, 0, 4, 5, 4);
            middled(x, m, 1, 4, 1, 2);
            middled(x, m, 2, 4, 5, 4);
        }
        for (int m : new int[] {SUM, CUT, LONG}) {
            middled(x, m, 0, 2, 1, 1);
            middled(x, m, 1, 2, 1, 1);
        }
        x.rule(3, 0, 0, 0);
        middled(x, SUM, 0, 1, 0, 1);
        middled(x, LONG, 0, 1, 0, 1);
        middled(x, LONG, 2, 1, 2, 1);
        middled(Check.worldOf("n1"), LONG, 0, 1, 0, 1);
        middled(Check.worldOf("n10"), SUM, 4, 3628800, 9, 2);
        middled(Check.worldOf("n10 J@9"), SUM, 9, 362880, 9, 1);
        middled(Check.worldOf("n8"), LONG, 7, 40320, 7, 2);
        TiedRow y = Check.rich(SMALL);
        y.middle(HELD, 0);
        CHECK.due("asked() stays", y.asked(), Check.RICH_ASKED);
    }

    private static void middleRefused() {
        CHECK.says(32, "BAD; SPENT; NOUGHT.");
        refused("middle", (x, m) -> x.middle(m, 8 % x.count(0)));
        bad("middle of", Check.outside(0, 8), (x, m, a) -> x.middle(m, a));
        TiedRow none = Check.rich("");
        CHECK.refuses("without things", none, BAD, () -> none.middle(SUM, 0));
    }

    // ---- 33 leads

    private static void led(TiedRow x, int m, int a, int b, int want, int number) {
        CHECK.due("leads(" + m + ", " + a + ", " + b + ")", x.leads(m, a, b), want);
        CHECK.due("in how many " + m + ", " + a + ", " + b, x.asked(), number);
    }

    private static void leads() {
        CHECK.says(33, "Whether a THING is ahead of another one in LEAST ORDERS: 2 in all, 1 in some, 0 in none; "
            + "in how many by asked().");
        TiedRow x = Check.rich(SMALL);
        // ABC BAC BCA CBA.
        for (int m : new int[] {HELD, PROFILE}) {
            led(x, m, 0, 1, 1, 1);
            led(x, m, 1, 0, 1, 3);
            led(x, m, 1, 2, 1, 3);
            led(x, m, 0, 2, 1, 2);
        }
        for (int m : new int[] {SUM, CUT, LONG}) {
            led(x, m, 0, 1, 1, 1);
            led(x, m, 1, 0, 1, 1);
        }
        x.rule(1, 2, 0, 0);
        for (int m = 0; m < 5; m++) {
            int ways = x.ways(m);
            led(x, m, 2, 0, 2, ways);
            led(x, m, 0, 2, 0, 0);
        }
        // LONG has D E F in a row, in four places among the others, which stand in six ways.
        TiedRow y = Check.worldOf("n6 DE1 EF1 D<F");
        led(y, LONG, 3, 5, 2, 24);
        led(y, LONG, 5, 3, 0, 0);
        led(y, LONG, 0, 1, 1, 12);
        led(y, LONG, 0, 3, 1, 12);
        y.rule(3, 0, 0, 0);
        led(y, LONG, 0, 3, 2, 6);
        led(y, LONG, 1, 3, 1, 3);
        led(Check.worldOf("n10"), SUM, 8, 9, 1, 1814400);
        led(Check.worldOf("n10 I<J"), SUM, 8, 9, 2, 1814400);
        led(Check.worldOf("n8"), LONG, 7, 6, 1, 20160);
    }

    private static void leadsRefused() {
        CHECK.says(33, "BAD; SPENT; NOUGHT.");
        refused("leads", (x, m) -> x.leads(m, 0, 1));
        bad("leads of A and", Check.outside(0, 8), (x, m, b) -> x.leads(m, 0, b));
        bad("leads of B and", Check.outside(0, 8), (x, m, a) -> x.leads(m, a, 1));
        bad("leads of alike ones", new int[] {0, 1, 8}, (x, m, a) -> x.leads(m, a, a));
        TiedRow none = Check.rich("");
        CHECK.refuses("without things", none, BAD, () -> none.leads(SUM, 0, 1));
    }

    // ---- 34 both

    private static void paired(TiedRow x, int m, int l, int want, int number) {
        CHECK.due("both(" + m + ", " + l + ")", x.both(m, l), want);
        CHECK.due("how many have it by " + m + ", " + l, x.asked(), number);
    }

    private static void both() {
        CHECK.says(34, "The least of MEASURE l among LEAST ORDERS of MEASURE m; how many have it by asked().");
        TiedRow x = Check.rich(SMALL);
        int[] least = {3, 2, 1, 2, 1};
        for (int m = 0; m < 5; m++) {
            for (int l = 0; l < 5; l++) {
                boolean four = (m == HELD || m == PROFILE) && (l == HELD || l == PROFILE);
                paired(x, m, l, least[l], four ? 4 : 2);
            }
            CHECK.due("least is as it was", x.least(m), least[m]);
        }
        // A star of five: PROFILE 4 has the middle first or second, SUM 6 and LONG 2 have it third.
        TiedRow star = Check.worldOf("n5 AB1 AC1 AD1 AE1");
        paired(star, PROFILE, SUM, 7, 24);
        paired(star, SUM, PROFILE, 5, 24);
        paired(star, PROFILE, LONG, 3, 24);
        paired(star, LONG, PROFILE, 5, 24);
        paired(star, LONG, SUM, 6, 24);
        // LONG 1 has B C D in a row, A ahead of it or behind it.
        TiedRow path = Check.worldOf("n4 BC1 CD9");
        paired(path, LONG, SUM, 10, 4);
        paired(path, LONG, HELD, 1, 4);
        paired(path, LONG, CUT, 9, 4);
        paired(path, CUT, LONG, 1, 4);
        // LONG 2 has A second or third: SUM wants D beside it, CUT wants D alone on its side, PROFILE wants A second.
        TiedRow heavy = Check.worldOf("n4 AB1 AC1 AD9");
        paired(heavy, LONG, SUM, 12, 8);
        paired(heavy, LONG, CUT, 9, 4);
        paired(heavy, LONG, PROFILE, 3, 6);
        paired(Check.worldOf("n9 AB1"), SUM, PROFILE, 1, 80640);
        for (int m = 0; m < 5; m++) {
            for (int l = 0; l < 5; l++) {
                paired(new TiedRow(), m, l, 0, 1);
                paired(Check.worldOf("n1"), m, l, 0, 1);
            }
        }
        paired(Check.worldOf("n10"), SUM, PROFILE, 0, 3628800);
        paired(Check.worldOf("n8"), LONG, SUM, 0, 40320);
    }

    private static void bothRefused() {
        CHECK.says(34, "BAD;");
        bad("both, a measure and", NO_MEASURES, (x, m, l) -> x.both(m, l));
        bad("both, behind it a measure:", NO_MEASURES, (x, m, l) -> x.both(l, m));
        CHECK.says(34, "SPENT: of either;");
        TiedRow nine = Check.rich(NINE_NONE);
        for (int m = 0; m < 5; m++) {
            int measure = m;
            CHECK.refuses("both(4, " + m + ")", nine, SPENT, () -> nine.both(LONG, measure));
            CHECK.refuses("both(" + m + ", 4)", nine, SPENT, () -> nine.both(measure, LONG));
        }
        CHECK.says(34, "NOUGHT.");
        TiedRow x = Check.rich(NONE_ALLOWED);
        for (int m = 0; m < 5; m++) {
            for (int l = 0; l < 5; l++) {
                int one = m;
                int two = l;
                CHECK.finds("both(" + m + ", " + l + ")", x, NOUGHT, () -> x.both(one, two));
                if (m < LONG && l < LONG) {
                    CHECK.finds("both(" + m + ", " + l + ") of nine", nine, NOUGHT, () -> nine.both(one, two));
                }
            }
        }
    }

    // ---- 35 must

    private static void must(String signs, int want, int bits) {
        TiedRow x = Check.worldOf(signs);
        long digest = x.digest();
        CHECK.due("must of '" + signs + "'", x.must(), want);
        CHECK.due("which of '" + signs + "'", x.asked(), bits);
        CHECK.due("nothing is off by it", x.digest(), digest);
    }

    private static void must() {
        CHECK.says(35, "The least number of RULES that are not OFF which have to be OFF, so that some ORDER is ALLOWED; "
            + "the first such set (the least bits) by asked().");
        must("", 0, 0);
        must("n3", 0, 0);
        must("n3 A<B B<C", 0, 0);
        must("n3 A<B B<C C<A", 1, 1);
        must("n3 A@0 B<A C<A", 1, 1);
        must("n3 B<A C<A A@0", 1, 4);
        must("n3 A@0 A@1 A@2", 2, 3);
        must("n3 A@0 A@1 A@2 A@1", 2, 5);
        must("n2 A!B", 1, 1);
        must("n2 A<B A!B", 1, 2);
        must("n3 A+B A+C B?AC", 1, 2);
        must("n1 A@1 A^0", 1, 1);
        // One rule against two: the fewest, though its bit is the greatest.
        must("n3 B<A B<A B<A B<A B<A B<A B<A A<B", 1, 128);
        must("n3 A@9 B@9 C@9 A^0 A@8 B@8 C@8 A@7", 7, 247);
        must("n1 A@1A@2A@3A@4A@5A@6A@7A@8", 8, 255);
        must("n10 J+A J+B J+C J+D J+E J+F J+G J+H", 7, 127);
        TiedRow x = Check.worldOf("n3 A@0 A@1 A@2");
        x.off(0, 1);
        CHECK.due("one being off", x.must(), 1);
        CHECK.due("which", x.asked(), 2);
        x.off(1, 1);
        CHECK.due("two being off", x.must(), 0);
        CHECK.due("which", x.asked(), 0);
        TiedRow none = note();
        CHECK.due("a note", none.must(), 0);
        CHECK.due("which", none.asked(), 0);
    }

    /** What it says is of the rules as they are then. */
    private static void mustAgain() {
        CHECK.says(35, "RULES that are not OFF");
        String[] rules = {"B<A", "A+C", "A@9", "B!C", "A?BC", "C^0"};
        TiedRow x = Check.worldOf("n3");
        CHECK.due("no rule", x.must(), 0);
        for (String rule : rules) {
            Check.write(x, 0, "n3 " + rule + " A@0 B@1 C@2");
            x.world(0);
            CHECK.due("with " + rule, x.must(), 1);
            CHECK.due("which", x.asked(), 1);
            x.off(0, 1);
            CHECK.due("it being off", x.must(), 0);
            CHECK.due("which", x.asked(), 0);
            x.off(0, 0);
            CHECK.due("it being on again", x.must(), 1);
            x.back(1);
            CHECK.due("it alone", x.must(), rule.equals("A@9") ? 1 : 0);
            x.back(0);
            CHECK.due("none", x.must(), 0);
            x.rule(0, HIGH, LOW, 0);
            CHECK.due("a note", x.must(), 0);
        }
    }
}
