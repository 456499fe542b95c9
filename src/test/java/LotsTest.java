/** Promises 36 to 43, and the terms of swaps and moves: how far orders are apart, lots, the mean of all, images. */
public final class LotsTest {
    private static final int LOW = Check.LOW, HIGH = Check.HIGH, BAD = TiedRow.BAD, NONE = TiedRow.NONE;
    private static final int NOTHING = Check.NOTHING, UNLIKE = Check.UNLIKE, NOUGHT = Check.NOUGHT, SIZE = Check.SIZE;
    private static final int SUM = 0, CUT = 1, HELD = 2, PROFILE = 3, LONG = 4;
    private static final int[] NO_ROWS = Check.outside(0, 5), NO_MEASURES = Check.outside(0, 4);
    private static final int LAST_SEED = 2147483646;
    private static final int[] NO_SEEDS = {0, -1, LOW, HIGH, LAST_SEED + 1};
    private static final String WORLD = "n3 AB2 BC1 A<B", RISING = "ABCDEFGHIJ", FALLING = "JIHGFEDCBA";
    private static final Check CHECK = new Check("LotsTest");

    public static void main(String[] args) {
        aSwap();
        aMove();
        better();
        swaps();
        moves();
        improvingRefused();
        apart();
        apartRefused();
        draw();
        drawRefused();
        lots();
        lotsRefused();
        average();
        averageRefused();
        image();
        imageRefused();
        on();
        onRefused();
        CHECK.end();
    }

    /** swaps() or moves(). */
    private interface Improving {
        int on(TiedRow x, int m, int r);
    }

    private static void improved(Improving way, TiedRow x, int m, String from, int done, int value, String to) {
        Check.layOrder(x, 0, from);
        CHECK.due("measure " + m + " of " + from + " is made better", way.on(x, m, 0), done);
        CHECK.due("the measure then", x.asked(), value);
        CHECK.due("measure()", x.measure(m, 0), value);
        CHECK.showsOrder("measure " + m + " of " + from, x, 0, to);
    }

    private static void swapped(TiedRow x, int m, String from, int done, int value, String to) {
        improved(TiedRow::swaps, x, m, from, done, value, to);
    }

    private static void moved(TiedRow x, int m, String from, int done, int value, String to) {
        improved(TiedRow::moves, x, m, from, done, value, to);
    }

    // ---- the terms

    private static void aSwap() {
        CHECK.says(0, "3 A SWAP of an ORDER: two neighbours change places.");
        swapped(Check.worldOf("n3 BC9"), SUM, "BAC", 1, 9, "ABC");
        swapped(Check.worldOf("n3 AC9"), SUM, "ABC", 1, 9, "BAC");
        swapped(Check.worldOf("n3 AC9 A@0"), SUM, "ABC", 1, 9, "ACB");
        // The last one and the first are no neighbours: changing A and F would leave ties that are 1 long.
        TiedRow x = Check.worldOf("n6 AE1 BF1");
        swapped(x, LONG, "ABCDEF", 0, 4, "ABCDEF");
        swapped(x, LONG, "FBCDEA", 0, 1, "FBCDEA");
        // Nor are those that have one between them: only A and C, changing places, would do.
        swapped(Check.worldOf("n3 AB9 B@1 A@2"), SUM, "CBA", 0, 9, "CBA");
        swapped(Check.worldOf("n4 BD1 C@1"), SUM, "BCAD", 1, 2, "BCDA");
    }

    private static void aMove() {
        CHECK.says(0, "A MOVE: a THING is taken out and put back at another place, the others closing up.");
        moved(Check.worldOf("n10 AJ1"), SUM, RISING, 1, 1, "BCDEFGHIAJ");
        moved(Check.worldOf("n10 AJ1 A@0"), SUM, RISING, 1, 1, "AJBCDEFGHI");
        moved(Check.worldOf("n10 AJ1 J@9"), SUM, RISING, 1, 1, "BCDEFGHIAJ");
        moved(Check.worldOf("n10 AJ1 A@9"), SUM, "JIHGFEDCBA", 1, 1, "IHGFEDCBJA");
        // From the first place to the last one, and back.
        moved(Check.worldOf("n3 AC1 C+A"), SUM, "CAB", 0, 1, "CAB");
        moved(Check.worldOf("n4 AB9 CD9 A^0"), LONG, "ACDB", 1, 1, "ABCD");
        moved(Check.worldOf("n3 BC1 A@2"), SUM, "BCA", 0, 1, "BCA");
        TiedRow x = Check.worldOf("n6 AE1 BF1");
        // B to 4 gives 3, the best by then; A to 2 gives 1.
        moved(x, LONG, "ABCDEF", 2, 1, "CDAEBF");
        moved(x, SUM, "ABCDEF", 2, 2, "CDAEBF");
    }

    private static void better() {
        CHECK.says(0, "Better is an ALLOWED ORDER of a lesser MEASURE.");
        // All swaps and moves leave the cut as it is: none is better.
        TiedRow x = Check.worldOf("n4 AB1");
        swapped(x, CUT, "ACDB", 0, 1, "ACDB");
        moved(x, CUT, "ACDB", 0, 1, "ACDB");
        // A @ 0 keeps A, C @ 1 also what is beside it: B can come no nearer.
        TiedRow y = Check.worldOf("n4 AB1 A@0");
        swapped(y, SUM, "ACDB", 2, 1, "ABCD");
        moved(y, SUM, "ACDB", 1, 1, "ABCD");
        y.rule(3, 2, 1, 0);
        swapped(y, SUM, "ACDB", 1, 2, "ACBD");
        moved(y, SUM, "ACDB", 1, 2, "ACBD");
        y.rule(3, 3, 2, 0);
        swapped(y, SUM, "ACDB", 0, 3, "ACDB");
        moved(y, SUM, "ACDB", 0, 3, "ACDB");
        y.off(1, 1);
        swapped(y, SUM, "ACDB", 0, 3, "ACDB");
        y.off(2, 1);
        swapped(y, SUM, "ACDB", 2, 1, "ABCD");
        moved(y, SUM, "ACDB", 1, 1, "ABCD");
    }

    // ---- 36 swaps, 37 moves

    private static void swaps() {
        CHECK.says(36, "The best SWAP of an ORDER in a ROW (of alike ones the first), if it is better, is done, "
            + "again and again till none is: how many were; its MEASURE then by asked().");
        TiedRow x = Check.worldOf("n3 AB2 BC1");
        swapped(x, SUM, "ABC", 0, 3, "ABC");
        // ACB 5: the first swap gives CAB 4, the second ABC 3.
        swapped(x, SUM, "ACB", 1, 3, "ABC");
        // CAB 4: the first swap gives ACB 5, the second CBA 3.
        swapped(x, SUM, "CAB", 1, 3, "CBA");
        swapped(x, SUM, "BAC", 1, 3, "ABC");
        swapped(x, CUT, "ACB", 1, 2, "ABC");
        swapped(x, HELD, "ACB", 1, 1, "ABC");
        swapped(x, PROFILE, "ACB", 1, 2, "ABC");
        swapped(x, LONG, "ACB", 1, 1, "ABC");
        // Both outer swaps are as good: the first is done.
        swapped(Check.worldOf("n4 AB1"), SUM, "ACDB", 2, 1, "CDAB");
        swapped(Check.worldOf("n4 AB1"), LONG, "ACDB", 2, 1, "CDAB");
        // A comes all the way, as far as may be.
        swapped(Check.worldOf("n10 AJ1"), LONG, RISING, 8, 1, "BCDEFGHIAJ");
        swapped(Check.worldOf("n10 AJ1 A@0"), SUM, RISING, 8, 1, "AJBCDEFGHI");
        for (int m = 0; m < 5; m++) {
            swapped(new TiedRow(), m, "", 0, 0, "");
            swapped(Check.worldOf("n1"), m, "A", 0, 0, "A");
            swapped(Check.worldOf("n2 AB9"), m, "BA", 0, m < HELD ? 9 : 1, "BA");
            swapped(Check.worldOf("n10"), m, FALLING, 0, 0, FALLING);
        }
    }

    private static void moves() {
        CHECK.says(37, "The same by MOVES (of alike ones the least THING, then the least place).");
        TiedRow x = Check.worldOf("n3 AB2 BC1");
        moved(x, SUM, "ABC", 0, 3, "ABC");
        // ACB 5: A to 2 gives CBA 3, B to 1 gives ABC 3: the lesser thing moves.
        moved(x, SUM, "ACB", 1, 3, "CBA");
        // BCA 5: A to 0 gives ABC 3, B to 1 gives CBA 3: the lesser thing moves.
        moved(x, SUM, "BCA", 1, 3, "ABC");
        moved(x, CUT, "ACB", 1, 2, "CBA");
        moved(x, LONG, "ACB", 1, 1, "CBA");
        // HELD: A to 2 gives CBA 1, as B to 0 and to 1 do.
        moved(x, HELD, "ACB", 1, 1, "CBA");
        moved(x, PROFILE, "ACB", 1, 2, "CBA");
        // A to 2 and to 3, B to 0 and to 1 all give 1: A to 2.
        moved(Check.worldOf("n4 AB1"), SUM, "ACDB", 1, 1, "CDAB");
        // A to 0 and to 1, B to 2 and to 3 all give 1: A to 0.
        moved(Check.worldOf("n4 AB1"), LONG, "BCDA", 1, 1, "ABCD");
        // C to 2 and to 3, D to 0 and to 1 all give 9: C to 2.
        moved(Check.worldOf("n4 CD9"), SUM, "CABD", 1, 9, "ABCD");
        // Of 22: the best, though a lesser thing's is better: A to 3 gives 19, B to 0 gives 12, as B to 4 does.
        moved(Check.worldOf("n5 AE1 CD9 A^3"), SUM, "ACBDE", 2, 10, "BCDAE");
        moved(Check.worldOf("n10 AJ1"), LONG, RISING, 1, 1, "BCDEFGHIAJ");
        for (int m = 0; m < 5; m++) {
            moved(new TiedRow(), m, "", 0, 0, "");
            moved(Check.worldOf("n1"), m, "A", 0, 0, "A");
            moved(Check.worldOf("n2 AB9"), m, "BA", 0, m < HELD ? 9 : 1, "BA");
            moved(Check.worldOf("n10"), m, FALLING, 0, 0, FALLING);
        }
    }

    private static void improvingRefused() {
        CHECK.says(36, "BAD; NOTHING; SIZE; UNLIKE: no ORDER, or none that is ALLOWED.");
        refused(TiedRow::swaps);
        CHECK.says(37, "BAD; NOTHING; SIZE; UNLIKE.");
        refused(TiedRow::moves);
    }

    private static void refused(Improving way) {
        TiedRow x = Check.rich(WORLD);
        for (int m : NO_MEASURES) {
            for (int r : new int[] {0, 1, 2, 3, 5}) {
                CHECK.refuses("measure " + m + " of row " + r, x, BAD, () -> way.on(x, m, r));
            }
        }
        for (int r : NO_ROWS) {
            CHECK.refuses("of row " + r, x, BAD, () -> way.on(x, SUM, r));
        }
        for (int m = 0; m < 5; m++) {
            int measure = m;
            CHECK.finds("of a missing one", x, NOTHING, () -> way.on(x, measure, 5));
            CHECK.finds("of four", x, SIZE, () -> way.on(x, measure, 2));
            CHECK.finds("of no order", x, UNLIKE, () -> way.on(x, measure, 3));
            CHECK.finds("of one that is not allowed", x, UNLIKE, () -> way.on(x, measure, 1));
        }
        Check.layRow(x, 2, 9, 9);
        CHECK.finds("of two that are none", x, SIZE, () -> way.on(x, SUM, 2));
    }

    // ---- 38 apart

    private static void apart() {
        CHECK.says(38, "The least number of SWAPS that make one ORDER of another one (whatever is ALLOWED).");
        String[][] pairs = {{"ABCD", "ABCD", "0"}, {"ABCD", "DCBA", "6"}, {"ABCD", "BACD", "1"}, {"ABCD", "ABDC", "1"},
            {"BDAC", "ABCD", "3"}, {"BDAC", "CADB", "6"}, {"DABC", "ABCD", "3"}, {"BDAC", "DBCA", "2"}, {"ABCD", "DBCA", "5"},
            {"", "", "0"}, {"A", "A", "0"}, {"AB", "BA", "1"}, {RISING, FALLING, "45"}, {RISING, RISING, "0"},
            {RISING, "BCDEFGHIJA", "9"}, {RISING, "JBCDEFGHIA", "17"}};
        for (String[] pair : pairs) {
            int n = pair[0].length();
            TiedRow x = Check.worldOf(n == 0 ? "" : n < 2 ? "n1 A@1" : "n" + n + " A<B B<A");
            Check.layOrder(x, 0, pair[0]);
            Check.layOrder(x, 5, pair[1]);
            int want = Integer.parseInt(pair[2]);
            CHECK.answers("apart " + pair[0] + " " + pair[1], x, want, () -> x.apart(0, 5));
            CHECK.answers("apart " + pair[1] + " " + pair[0], x, want, () -> x.apart(5, 0));
            CHECK.answers("apart from itself", x, 0, () -> x.apart(5, 5));
        }
    }

    private static void apartRefused() {
        CHECK.says(38, "BAD; NOTHING: either; SIZE; UNLIKE.");
        TiedRow x = Check.rich(WORLD);
        for (int r : NO_ROWS) {
            for (int other : new int[] {0, 2, 3, 5}) {
                CHECK.refuses("apart(" + r + ", " + other + ")", x, BAD, () -> x.apart(r, other));
                CHECK.refuses("apart(" + other + ", " + r + ")", x, BAD, () -> x.apart(other, r));
            }
        }
        // Row 5 is missing, row 2 has a place too many, row 3 is no order, row 0 is one.
        int[] rows = {5, 2, 3, 0};
        int[] due = {NOTHING, SIZE, UNLIKE};
        for (int i = 0; i < 3; i++) {
            int r = rows[i];
            for (int j = i; j < 4; j++) {
                int other = rows[j];
                CHECK.finds("apart(" + r + ", " + other + ")", x, due[i], () -> x.apart(r, other));
                CHECK.finds("apart(" + other + ", " + r + ")", x, due[i], () -> x.apart(other, r));
            }
        }
    }

    // ---- 39 draw

    private static void drawn(int n, int seed, int number, String want) {
        for (int r : new int[] {0, 4, 5}) {
            TiedRow x = Check.rich(n == 0 ? "" : n < 2 ? "n1 A@1" : "n" + n + " AB1 A<B B<A");
            CHECK.due("draw by " + seed + " of " + n, x.draw(seed, r), number);
            CHECK.due("asked() stays", x.asked(), Check.RICH_ASKED);
            CHECK.showsOrder("draw by " + seed + " of " + n, x, r, want);
        }
    }

    private static void draw() {
        CHECK.says(39, "An ORDER is drawn by a seed (1 .. 2147483646) into a ROW (anew): a number comes from the one ahead by "
            + "48271 times it modulo 2147483647; of the THINGS that are left, rising, the one whose place is it modulo how many "
            + "they are comes next: the last number");
        drawn(1, 1, 48271, "A");
        drawn(1, LAST_SEED, 2147435376, "A");
        drawn(2, 1, 182605794, "BA");
        drawn(2, LAST_SEED, 1964877853, "AB");
        // 48271 % 3 is 1: B; 182605794 is even: A; then C.
        drawn(3, 1, 1291394886, "BAC");
        drawn(3, 2, 435306125, "CAB");
        drawn(3, LAST_SEED - 1, 1712177522, "CBA");
        drawn(3, LAST_SEED, 856088761, "ACB");
        drawn(9, 1, 564586691, "ECHBDIGFA");
        drawn(9, LAST_SEED, 1582896956, "GFDACBIEH");
        drawn(10, 1, 1596680831, "BHIFCGDJEA");
        drawn(10, 2, 1045878015, "CEHADFJGBI");
        drawn(10, LAST_SEED, 550802816, "GEBHAJFICD");
        CHECK.says(39, "(the seed, if there is no THING).");
        drawn(0, 1, 1, "");
        drawn(0, 77, 77, "");
        drawn(0, LAST_SEED, LAST_SEED, "");
    }

    private static void drawRefused() {
        CHECK.says(39, "BAD.");
        TiedRow x = Check.rich(WORLD);
        TiedRow none = Check.rich("");
        for (int seed : NO_SEEDS) {
            CHECK.refuses("draw by " + seed, x, BAD, () -> x.draw(seed, 4));
            CHECK.refuses("draw by " + seed + " of no thing", none, BAD, () -> none.draw(seed, 4));
        }
        for (int r : NO_ROWS) {
            CHECK.refuses("draw into " + r, x, BAD, () -> x.draw(1, r));
        }
    }

    // ---- 40 lots

    private static void lots() {
        CHECK.says(40, "Of n (1 .. 200) ORDERS drawn by a seed, one behind the other (each from the last number on), "
            + "how many are ALLOWED; the least MEASURE of these by asked()");
        // Of those drawn by draw(), one behind the other: how many keep the rule, and the least of them.
        String[] worlds = {"n3 AB2 BC1 A<B", "n5 AB9 CD5 AE1", "n10 AJ1 BC4 IJ9 J<A", "n2 AB9"};
        for (String signs : worlds) {
            for (int seed : new int[] {1, 7, LAST_SEED}) {
                for (int m = 0; m < 5; m++) {
                    likeDrawing(signs, m, seed);
                }
            }
        }
        for (int m = 0; m < 5; m++) {
            TiedRow none = new TiedRow();
            CHECK.due("lots of no thing", none.lots(m, 200, 5), 200);
            CHECK.due("their least", none.asked(), 0);
            CHECK.due("one lot of no thing", none.lots(m, 1, LAST_SEED), 1);
        }
        CHECK.says(40, "(NONE).");
        // The first by 1 is BAC: not allowed by A < B; off, it is.
        TiedRow x = Check.worldOf(WORLD);
        CHECK.due("none is allowed", x.lots(SUM, 1, 1), 0);
        CHECK.due("no least", x.asked(), NONE);
        x.off(0, 1);
        CHECK.due("one is allowed", x.lots(SUM, 1, 1), 1);
        CHECK.due("its measure", x.asked(), 4);
        TiedRow never = Check.worldOf("n3 A@3");
        CHECK.due("none of 200", never.lots(LONG, 200, 1), 0);
        CHECK.due("no least", never.asked(), NONE);
    }

    private static void likeDrawing(String signs, int m, int seed) {
        TiedRow x = Check.worldOf(signs);
        TiedRow by = Check.worldOf(signs);
        int number = seed;
        int allowed = 0;
        int least = NONE;
        for (int i = 1; i <= 200; i++) {
            number = by.draw(number, 0);
            if (by.breaks(0) == NONE) {
                allowed++;
                int value = by.measure(m, 0);
                least = least == NONE || value < least ? value : least;
            }
            if (i < 6 || i > 198) {
                long digest = x.digest();
                CHECK.due("lots(" + m + ", " + i + ", " + seed + ") of " + signs, x.lots(m, i, seed), allowed);
                CHECK.due("the least of " + i + " lots of " + signs, x.asked(), least);
                CHECK.due("no row is changed", x.digest(), digest);
            }
        }
    }

    private static void lotsRefused() {
        CHECK.says(40, "BAD.");
        TiedRow x = Check.rich(WORLD);
        for (int m : NO_MEASURES) {
            CHECK.refuses("lots(" + m + ", 1, 1)", x, BAD, () -> x.lots(m, 1, 1));
        }
        for (int n : Check.outside(1, 200)) {
            CHECK.refuses("lots(0, " + n + ", 1)", x, BAD, () -> x.lots(SUM, n, 1));
        }
        for (int seed : NO_SEEDS) {
            CHECK.refuses("lots(0, 1, " + seed + ")", x, BAD, () -> x.lots(SUM, 1, seed));
        }
    }

    // ---- 41 average

    private static void averaged(String signs, long upper, long lower) {
        TiedRow x = Check.worldOf(signs);
        long digest = x.digest();
        CHECK.due("average of " + signs, x.average(), 1);
        CHECK.due("upper of " + signs, x.upper(), upper);
        CHECK.due("lower of " + signs, x.lower(), lower);
        CHECK.due("nothing else is changed", x.digest(), digest);
    }

    private static void average() {
        CHECK.says(41, "The mean SUM of all ORDERS (ALLOWED or not), told by upper(), lower(): 1.");
        // ABC 3, ACB 5, BAC 4 and their mirrors.
        averaged("n3 AB2 BC1", 4, 1);
        averaged("n3 AB2 BC1 A<B", 4, 1);
        averaged("n3 AB2 BC1 A<B B<A", 4, 1);
        averaged("n4 AB1", 5, 3);
        averaged("n1", 0, 1);
        averaged("n10", 0, 1);
        averaged("n2 AB9", 9, 1);
        averaged("n10 IJ1", 11, 3);
        averaged("n10 AB1 BC1", 22, 3);
        averaged("n10 AB1 BC1 HI1", 11, 1);
        TiedRow x = Check.worldOf("n10");
        for (int a = 0; a < 10; a++) {
            for (int b = a + 1; b < 10; b++) {
                x.tie(a, b, 9);
            }
        }
        x.average();
        CHECK.due("as much as may be", x.upper(), 9 * 165);
        CHECK.due("by 1", x.lower(), 1);
    }

    private static void averageRefused() {
        CHECK.says(41, "NOUGHT: there is no THING.");
        TiedRow none = Check.rich("");
        CHECK.finds("average of no thing", none, NOUGHT, none::average);
        TiedRow one = Check.rich("n1");
        CHECK.answers("average of one", one, 1, one::average);
    }

    // ---- 42 image

    private static void image() {
        CHECK.says(42, "WEIGHTS of all TIES (A B, A C, .. by the lesser THING, then the greater one) come to a ROW (anew), "
            + "then which RULES are OFF (bits): how many.");
        for (int r : new int[] {0, 4, 5}) {
            TiedRow x = Check.rich("n4 AB1 AC2 AD3 BC4 BD5 CD6 A<B B<C C<D");
            x.off(0, 1);
            x.off(2, 1);
            x.at(4, 59);
            CHECK.due("image", x.image(r), 7);
            CHECK.due("asked() stays", x.asked(), Check.RICH_ASKED);
            CHECK.shows("image", x, r, 1, 2, 3, 4, 5, 6, 5);
        }
        TiedRow none = new TiedRow();
        CHECK.due("image of no thing", none.image(0), 1);
        CHECK.shows("image of no thing", none, 0, 0);
        none.rule(0, 0, 0, 0);
        none.off(0, 1);
        none.image(0);
        CHECK.shows("a note that is off", none, 0, 1);
        for (int n = 1; n <= 10; n++) {
            TiedRow x = Check.worldOf("n" + n);
            CHECK.due("image of " + n, x.image(0), n * (n - 1) / 2 + 1);
        }
        TiedRow x = Check.worldOf("n10 IJ9 AB8 A<BA<BA<BA<BA<BA<BA<BA<B");
        for (int k = 0; k < 8; k++) {
            x.off(k, 1);
        }
        int[] want = new int[46];
        want[0] = 8;
        want[44] = 9;
        want[45] = 255;
        x.image(5);
        CHECK.shows("as much as may be", x, 5, want);
    }

    private static void imageRefused() {
        CHECK.says(42, "BAD.");
        TiedRow x = Check.rich(WORLD);
        for (int r : NO_ROWS) {
            CHECK.refuses("image(" + r + ")", x, BAD, () -> x.image(r));
        }
    }

    // ---- 43 on

    private static void on() {
        CHECK.says(43, "TIES, RULES that are OFF are as an image in a ROW tells: 1.");
        TiedRow x = Check.worldOf("n3 AB1 AC2 BC3 A<B B<C");
        for (int[] image : new int[][] {{9, 0, 8, 2}, {0, 0, 0, 0}, {9, 9, 9, 3}, {0, 7, 0, 1}, {1, 2, 3, 0}}) {
            Check.layRow(x, 0, image);
            CHECK.due("on", x.on(0), 1);
            CHECK.due("A B", x.tie(0, 1, NONE), image[0]);
            CHECK.due("C A", x.tie(2, 0, NONE), image[1]);
            CHECK.due("C B", x.tie(2, 1, NONE), image[2]);
            CHECK.due("those that are off", x.count(4), Integer.bitCount(image[3]));
            x.told(0, 4);
            CHECK.due("rule 0", x.asked(), image[3] & 1);
            x.told(1, 4);
            CHECK.due("rule 1", x.asked(), image[3] >> 1);
            CHECK.due("its image", x.image(1), 4);
            CHECK.shows("its image", x, 1, image);
        }
        TiedRow none = new TiedRow();
        none.row(0, 1);
        CHECK.due("on of no thing", none.on(0), 1);
        TiedRow full = Check.worldOf("n10 A<BA<BA<BA<BA<BA<BA<BA<B");
        full.row(0, 46);
        for (int i = 0; i < 45; i++) {
            full.lay(0, i, 9);
        }
        full.lay(0, 45, 255);
        CHECK.due("as much as may be", full.on(0), 1);
        CHECK.due("all ties", full.count(1), 45);
        CHECK.due("all rules off", full.count(4), 8);
        CHECK.due("the last tie", full.tie(9, 8, NONE), 9);
        full.row(0, 46);
        CHECK.due("nothing", full.on(0), 1);
        CHECK.due("no tie", full.count(1), 0);
        CHECK.due("no rule off", full.count(4), 0);
    }

    private static void onRefused() {
        CHECK.says(43, "BAD; NOTHING; SIZE;");
        TiedRow x = Check.rich("n3 AB1 AC2 BC3 A<B B<C");
        for (int r : NO_ROWS) {
            CHECK.refuses("on(" + r + ")", x, BAD, () -> x.on(r));
        }
        CHECK.finds("a missing one", x, NOTHING, () -> x.on(5));
        for (int size : new int[] {0, 3, 5, 60}) {
            x.row(0, size);
            for (int i = 0; i < size; i++) {
                x.lay(0, i, -1);
            }
            CHECK.finds("of " + size + " that are none", x, SIZE, () -> x.on(0));
        }
        CHECK.says(43, "UNLIKE: a number.");
        int[][] wrong = {{10, 0, 0, 0}, {-1, 0, 0, 0}, {9, 10, 0, 0}, {9, 9, 10, 0}, {9, 9, -1, 0}, {9, 9, LOW, 0}, {HIGH, 9, 9, 0},
            {9, 9, NONE, 0}, {9, 9, 9, 4}, {9, 9, 9, -1}, {9, 9, 9, HIGH}, {9, 9, 9, LOW}, {9, 9, 9, 7}};
        for (int[] image : wrong) {
            Check.layRow(x, 0, image);
            CHECK.finds("on of " + java.util.Arrays.toString(image), x, UNLIKE, () -> x.on(0));
        }
        TiedRow none = new TiedRow();
        TiedRow notes = Check.rich("");
        for (int bits : new int[] {1, -1, HIGH, LOW}) {
            Check.layRow(none, 4, bits);
            CHECK.finds("bits of no rule", none, UNLIKE, () -> none.on(4));
            Check.layRow(notes, 4, bits == 1 ? 4 : bits);
            CHECK.finds("bits of two notes", notes, UNLIKE, () -> notes.on(4));
        }
        TiedRow eight = Check.rich("n1 A@0A@0A@0A@0A@0A@0A@0A@0");
        Check.layRow(eight, 4, 256);
        CHECK.finds("a bit of a ninth rule", eight, UNLIKE, () -> eight.on(4));
        Check.layRow(eight, 4, 255);
        CHECK.due("all eight", eight.on(4), 1);
    }
}
