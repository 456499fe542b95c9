/** Promises 36 to 43: swaps, moves, how far orders are apart, lots, the mean of all, images. */
public final class LotsTest {
    private static final int NOTHING = 1, UNLIKE = 3, NOUGHT = 4, SIZE = 5;
    private static final int LOW = Integer.MIN_VALUE, HIGH = Integer.MAX_VALUE;
    private static final int[] NO_ROWS = {-1, 6, LOW, HIGH};
    private static final int[] NO_MEASURES = {-1, 5, LOW, HIGH};
    private static final int[] NO_SEEDS = {0, -1, LOW, HIGH};
    private static final Check CHECK = new Check("LotsTest");

    public static void main(String[] args) {
        swaps();
        swapsKeepRules();
        moves();
        movesKeepRules();
        improvingRefused();
        apart();
        draw();
        lots();
        average();
        image();
        on();
        onRefused();
        CHECK.end();
    }

    private static void swapped(TiedRow x, int m, String from, int done, int value, String to) {
        Check.layOrder(x, 0, from);
        CHECK.due("swaps " + m + " of " + from, x.swaps(m, 0), done);
        CHECK.due("the measure then", x.asked(), value);
        CHECK.dueText("swaps " + m + " of " + from, Check.letters(x, 0), to);
    }

    private static void moved(TiedRow x, int m, String from, int done, int value, String to) {
        Check.layOrder(x, 0, from);
        CHECK.due("moves " + m + " of " + from, x.moves(m, 0), done);
        CHECK.due("the measure then", x.asked(), value);
        CHECK.dueText("moves " + m + " of " + from, Check.letters(x, 0), to);
    }

    private static void swaps() {
        TiedRow x = Check.worldOf("n3AB2BC1");
        swapped(x, 0, "ABC", 0, 3, "ABC");
        // ACB 5: CAB has 4, ABC has 3.
        swapped(x, 0, "ACB", 1, 3, "ABC");
        // CAB 4: ACB has 5, CBA has 3.
        swapped(x, 0, "CAB", 1, 3, "CBA");
        swapped(x, 0, "BAC", 1, 3, "ABC");
        // ACB: CUT 3, LONG 2; swapping the first two leaves them.
        swapped(x, 4, "ACB", 1, 1, "ABC");
        swapped(x, 2, "ACB", 1, 1, "ABC");
        // Of A . . B both outer swaps are as good: the first is done.
        TiedRow y = Check.worldOf("n4AB1");
        swapped(y, 0, "ACDB", 2, 1, "CDAB");
        swapped(y, 4, "ACDB", 2, 1, "CDAB");
        swapped(y, 1, "ACDB", 0, 1, "ACDB");
        swapped(Check.worldOf("n1"), 0, "A", 0, 0, "A");
        swapped(new TiedRow(), 3, "", 0, 0, "");
        // Least among its neighbours, though not of all: one swap leaves one of two ties that are 4 long.
        TiedRow z = Check.worldOf("n6AE1BF1");
        swapped(z, 4, "ABCDEF", 0, 4, "ABCDEF");
        CHECK.due("its least LONG", z.least(4), 1);
        swapped(Check.worldOf("n10AJ1"), 4, "ABCDEFGHIJ", 8, 1, "BCDEFGHIAJ");
    }

    private static void swapsKeepRules() {
        TiedRow x = Check.worldOf("n4AB1A@0");
        swapped(x, 0, "ACDB", 2, 1, "ABCD");
        x.rule(3, 3, 2, 0);
        swapped(x, 0, "ACDB", 0, 3, "ACDB");
        x.off(1, 1);
        swapped(x, 0, "ACDB", 2, 1, "ABCD");
    }

    private static void moves() {
        TiedRow x = Check.worldOf("n3AB2BC1");
        moved(x, 0, "ABC", 0, 3, "ABC");
        // ACB 5: A to 2 gives CBA 3, B to 1 gives ABC 3: the lesser thing moves.
        moved(x, 0, "ACB", 1, 3, "CBA");
        // BCA 5: A to 0 gives ABC 3, B to 1 gives CBA 3: the lesser thing moves.
        moved(x, 0, "BCA", 1, 3, "ABC");
        TiedRow y = Check.worldOf("n4AB1");
        // A to 2 and to 3, B to 0 and to 1 all give 1: A to 2.
        moved(y, 0, "ACDB", 1, 1, "CDAB");
        moved(y, 4, "BCDA", 1, 1, "ABCD");
        moved(y, 1, "ACDB", 0, 1, "ACDB");
        moved(Check.worldOf("n4CD9"), 0, "CABD", 1, 9, "ABCD");
        moved(Check.worldOf("n1"), 0, "A", 0, 0, "A");
        moved(new TiedRow(), 3, "", 0, 0, "");
        moved(Check.worldOf("n10AJ1"), 4, "ABCDEFGHIJ", 1, 1, "BCDEFGHIAJ");
    }

    private static void movesKeepRules() {
        TiedRow x = Check.worldOf("n4AB1A@0");
        moved(x, 0, "ACDB", 1, 1, "ABCD");
        x.rule(3, 3, 2, 0);
        // D stays at 2 only if C and B are told to change places, which no move does.
        moved(x, 0, "ACDB", 0, 3, "ACDB");
        TiedRow y = Check.worldOf("n4AB1B<A");
        moved(y, 0, "BCDA", 1, 1, "BACD");
    }

    private static void improvingRefused() {
        TiedRow x = Check.worldOf("n3AB2BC1A<B");
        for (int m : NO_MEASURES) {
            CHECK.refuses("swaps " + m, x, TiedRow.BAD, () -> x.swaps(m, 0));
            CHECK.refuses("moves " + m, x, TiedRow.BAD, () -> x.moves(m, 0));
        }
        for (int r : NO_ROWS) {
            CHECK.refuses("swaps of " + r, x, TiedRow.BAD, () -> x.swaps(0, r));
            CHECK.refuses("moves of " + r, x, TiedRow.BAD, () -> x.moves(0, r));
        }
        CHECK.finds("swaps of none", x, NOTHING, () -> x.swaps(0, 1));
        CHECK.finds("moves of none", x, NOTHING, () -> x.moves(0, 1));
        x.row(1, 4);
        CHECK.finds("swaps of four", x, SIZE, () -> x.swaps(0, 1));
        CHECK.finds("moves of four", x, SIZE, () -> x.moves(0, 1));
        x.row(1, 3);
        CHECK.finds("swaps of no order", x, UNLIKE, () -> x.swaps(0, 1));
        CHECK.finds("moves of no order", x, UNLIKE, () -> x.moves(0, 1));
        Check.layOrder(x, 1, "BCA");
        CHECK.finds("swaps of one that is not allowed", x, UNLIKE, () -> x.swaps(0, 1));
        CHECK.finds("moves of one that is not allowed", x, UNLIKE, () -> x.moves(0, 1));
    }

    private static void apart() {
        TiedRow x = Check.worldOf("n4A<BB<A");
        String[][] pairs = {{"ABCD", "ABCD", "0"}, {"ABCD", "DCBA", "6"}, {"ABCD", "BACD", "1"}, {"BDAC", "ABCD", "3"},
            {"BDAC", "CADB", "6"}, {"DABC", "ABCD", "3"}, {"BDAC", "DBCA", "2"}};
        for (String[] pair : pairs) {
            Check.layOrder(x, 0, pair[0]);
            Check.layOrder(x, 1, pair[1]);
            CHECK.due("apart " + pair[0] + " " + pair[1], x.apart(0, 1), Integer.parseInt(pair[2]));
            CHECK.due("apart " + pair[1] + " " + pair[0], x.apart(1, 0), Integer.parseInt(pair[2]));
        }
        CHECK.due("apart from itself", x.apart(1, 1), 0);
        for (int r : NO_ROWS) {
            CHECK.refuses("apart of " + r, x, TiedRow.BAD, () -> x.apart(r, 5));
            CHECK.refuses("apart from " + r, x, TiedRow.BAD, () -> x.apart(5, r));
        }
        x.row(2, 3);
        x.row(3, 4);
        CHECK.finds("apart of none", x, NOTHING, () -> x.apart(5, 2));
        CHECK.finds("apart from none", x, NOTHING, () -> x.apart(2, 5));
        CHECK.finds("apart of three", x, SIZE, () -> x.apart(2, 3));
        CHECK.finds("apart from three", x, SIZE, () -> x.apart(3, 2));
        CHECK.finds("apart of no order", x, UNLIKE, () -> x.apart(3, 0));
        CHECK.finds("apart from no order", x, UNLIKE, () -> x.apart(0, 3));
    }

    private static void draw() {
        TiedRow x = Check.worldOf("n3A<BB<A");
        // 48271 % 3 is 1: B; 48271 squared modulo 2147483647 is 182605794, even: A; then C.
        CHECK.due("draw", x.draw(1, 2), 1291394886);
        CHECK.dueText("draw", Check.letters(x, 2), "BAC");
        x.row(2, 60);
        // 2147483646 is as -1: the numbers are 2147483647 less those above: 2147435376 % 3 is 0, 1964877853 is odd.
        CHECK.due("draw by the last seed", x.draw(2147483646, 2), 856088761);
        CHECK.dueText("draw by the last seed", Check.letters(x, 2), "ACB");
        TiedRow none = new TiedRow();
        CHECK.due("draw of no thing", none.draw(77, 0), 77);
        CHECK.due("an empty row", none.digest(), emptyRowDigest());
        for (int seed : NO_SEEDS) {
            CHECK.refuses("draw by " + seed, x, TiedRow.BAD, () -> x.draw(seed, 2));
        }
        for (int r : NO_ROWS) {
            CHECK.refuses("draw into " + r, x, TiedRow.BAD, () -> x.draw(1, r));
        }
    }

    private static long emptyRowDigest() {
        TiedRow x = new TiedRow();
        x.row(0, 0);
        return x.digest();
    }

    private static void lots() {
        TiedRow x = Check.worldOf("n3AB2BC1");
        // The draws by 1 one behind the other are those by the last number of the one ahead.
        int seed = 1;
        int[] least = {99, 99, 99, 99, 99};
        for (int i = 0; i < 200; i++) {
            seed = x.draw(seed, 0);
            for (int m = 0; m < 5; m++) {
                least[m] = Math.min(least[m], x.measure(m, 0));
                if (i == 0 || i == 199) {
                    CHECK.due("lots " + m, x.lots(m, i + 1, 1), i + 1);
                    CHECK.due("the least of lots", x.asked(), least[m]);
                }
            }
        }
        long digest = x.digest();
        // The first by 1 is BAC: not allowed by A < B.
        x.rule(1, 0, 1, 0);
        CHECK.due("lots none of which is allowed", x.lots(0, 1, 1), 0);
        CHECK.due("no least", x.asked(), TiedRow.NONE);
        x.off(0, 1);
        CHECK.due("lots with the rule off", x.lots(0, 1, 1), 1);
        CHECK.due("of BAC", x.asked(), 4);
        x.back(0);
        CHECK.due("lots change no row", x.digest(), digest);
        CHECK.due("lots of no thing", new TiedRow().lots(4, 200, 5), 200);
        TiedRow ten = Check.worldOf("n10AJ1");
        CHECK.due("LONG of ten", ten.lots(4, 7, 5), 7);
        for (int m : NO_MEASURES) {
            CHECK.refuses("lots " + m, x, TiedRow.BAD, () -> x.lots(m, 1, 1));
        }
        for (int n : new int[] {0, -1, 201, LOW, HIGH}) {
            CHECK.refuses("lots of " + n, x, TiedRow.BAD, () -> x.lots(0, n, 1));
        }
        for (int s : NO_SEEDS) {
            CHECK.refuses("lots by " + s, x, TiedRow.BAD, () -> x.lots(0, 1, s));
        }
    }

    private static void averages(String signs, long upper, long lower) {
        TiedRow x = Check.worldOf(signs);
        CHECK.due("average of " + signs, x.average(), 1);
        CHECK.due("upper of " + signs, x.upper(), upper);
        CHECK.due("lower of " + signs, x.lower(), lower);
    }

    private static void average() {
        // ABC 3, ACB 5, BAC 4 and their mirrors.
        averages("n3AB2BC1", 4, 1);
        averages("n3AB2BC1A<BB<A", 4, 1);
        averages("n4AB1", 5, 3);
        averages("n1", 0, 1);
        averages("n9", 0, 1);
        averages("n10AB1BC1", 22, 3);
        TiedRow none = new TiedRow();
        CHECK.finds("average of no thing", none, NOUGHT, none::average);
    }

    private static void shows(TiedRow x, int r, int... want) {
        for (int i = 0; i < want.length; i++) {
            x.at(r, i);
            CHECK.due("image at " + i, x.asked(), want[i]);
        }
        CHECK.due("its end", x.at(r, want.length), TiedRow.FINDING);
    }

    private static void image() {
        TiedRow x = Check.worldOf("n4AB1AC2AD3BC4BD5CD6A<BB<CC<D");
        x.off(0, 1);
        x.off(2, 1);
        x.row(3, 60);
        CHECK.due("image", x.image(3), 7);
        shows(x, 3, 1, 2, 3, 4, 5, 6, 5);
        TiedRow none = new TiedRow();
        CHECK.due("image of no thing", none.image(0), 1);
        shows(none, 0, 0);
        CHECK.due("image of one thing", Check.worldOf("n1").image(0), 1);
        CHECK.due("image of ten", Check.worldOf("n10").image(0), 46);
        for (int r : NO_ROWS) {
            CHECK.refuses("image into " + r, x, TiedRow.BAD, () -> x.image(r));
        }
    }

    private static void on() {
        TiedRow x = Check.worldOf("n3AB1AC2BC3A<BB<C");
        x.row(0, 4);
        int[] image = {9, 0, 8, 2};
        for (int i = 0; i < 4; i++) {
            x.lay(0, i, image[i]);
        }
        CHECK.due("on", x.on(0), 1);
        CHECK.due("A B", x.tie(0, 1, TiedRow.NONE), 9);
        CHECK.due("C A", x.tie(2, 0, TiedRow.NONE), 0);
        CHECK.due("C B", x.tie(2, 1, TiedRow.NONE), 8);
        CHECK.due("rule 0", x.off(0, 0), 0);
        CHECK.due("rule 1", x.off(1, 1), 1);
        CHECK.due("two ties", x.count(1), 2);
        CHECK.due("image is the same", x.image(1), 4);
        shows(x, 1, image);
        TiedRow none = new TiedRow();
        none.row(0, 1);
        CHECK.due("on of no thing", none.on(0), 1);
    }

    private static void onRefused() {
        TiedRow x = Check.worldOf("n3AB1AC2BC3A<BB<C");
        for (int r : NO_ROWS) {
            CHECK.refuses("on " + r, x, TiedRow.BAD, () -> x.on(r));
        }
        CHECK.finds("on of none", x, NOTHING, () -> x.on(5));
        for (int size : new int[] {0, 3, 5, 60}) {
            x.row(0, size);
            CHECK.finds("on of " + size, x, SIZE, () -> x.on(0));
        }
        int[][] wrong = {{10, 0, 0, 0}, {-1, 0, 0, 0}, {0, 10, 0, 0}, {0, 0, LOW, 0}, {0, 0, TiedRow.NONE, 0},
            {0, 0, 0, 4}, {0, 0, 0, -1}, {0, 0, 0, HIGH}, {0, 0, 0, LOW}};
        x.row(0, 4);
        for (int[] image : wrong) {
            for (int i = 0; i < 4; i++) {
                x.lay(0, i, image[i]);
            }
            CHECK.finds("on of a wrong number", x, UNLIKE, () -> x.on(0));
        }
    }
}
