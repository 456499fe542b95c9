/** Promises 18, 19, 20 and 27: measures of an order, the rules that it breaks, its gaps, bounds. */
public final class MeasuresTest {
    private static final int NOTHING = 1, BEYOND = 2, UNLIKE = 3, SIZE = 5;
    private static final int LOW = Integer.MIN_VALUE, HIGH = Integer.MAX_VALUE;
    private static final Check CHECK = new Check("MeasuresTest");

    public static void main(String[] args) {
        measure();
        measureOfFew();
        measureRefused();
        breaks();
        breaksByKind();
        gap();
        bound();
        CHECK.end();
    }

    private static void measures(TiedRow x, String letters, int... want) {
        Check.layOrder(x, 1, letters);
        for (int m = 0; m < 5; m++) {
            CHECK.due("measure " + m + " of " + letters, x.measure(m, 1), want[m]);
        }
    }

    private static void measure() {
        TiedRow x = Check.worldOf("n3AB2BC1");
        measures(x, "ABC", 3, 2, 1, 2, 1);
        measures(x, "ACB", 5, 3, 2, 3, 2);
        measures(x, "BAC", 4, 3, 1, 2, 2);
        measures(x, "BCA", 5, 3, 1, 2, 2);
        measures(x, "CAB", 4, 3, 2, 3, 2);
        measures(x, "CBA", 3, 2, 1, 2, 1);
        // A holds every gap, C the last two: weights across are 9, 9, 12, 12.
        TiedRow y = Check.worldOf("n5AE9CE3");
        measures(y, "ABCDE", 4 * 9 + 2 * 3, 12, 2, 6, 4);
        measures(y, "EABDC", 9 + 4 * 3, 12, 1, 4, 4);
        TiedRow z = Check.worldOf("n10AJ1A<B");
        measures(z, "ABCDEFGHIJ", 9, 1, 1, 9, 9);
        z.rule(1, 1, 0, 0);
        measures(z, "BCDEFGHIAJ", 1, 1, 1, 1, 1);
    }

    private static void measureOfFew() {
        TiedRow none = new TiedRow();
        measures(none, "", 0, 0, 0, 0, 0);
        measures(Check.worldOf("n1"), "A", 0, 0, 0, 0, 0);
        measures(Check.worldOf("n4"), "DBCA", 0, 0, 0, 0, 0);
        measures(Check.worldOf("n2AB9"), "BA", 9, 9, 1, 1, 1);
    }

    private static void measureRefused() {
        TiedRow x = Check.worldOf("n3AB2BC1");
        x.row(0, 3);
        for (int[] b : new int[][] {{-1, 2}, {5, 2}, {LOW, 2}, {HIGH, 2}, {0, -1}, {0, 6}, {0, LOW}, {0, HIGH}}) {
            CHECK.refuses("measure(" + b[0] + ", " + b[1] + ")", x, TiedRow.BAD, () -> x.measure(b[0], b[1]));
        }
        CHECK.finds("measure of none", x, NOTHING, () -> x.measure(0, 2));
        CHECK.finds("measure of A A A", x, UNLIKE, () -> x.measure(0, 0));
        Check.layOrder(x, 0, "ABD");
        CHECK.finds("measure of A B D", x, UNLIKE, () -> x.measure(4, 0));
        x.lay(0, 2, LOW);
        CHECK.finds("measure of A B LOW", x, UNLIKE, () -> x.measure(4, 0));
        x.lay(0, 2, 32);
        CHECK.finds("measure of A B 32", x, UNLIKE, () -> x.measure(4, 0));
        Check.layOrder(x, 0, "ABCD");
        CHECK.finds("measure of four", x, SIZE, () -> x.measure(1, 0));
        x.row(0, 0);
        CHECK.finds("measure of an empty row", x, SIZE, () -> x.measure(2, 0));
        x.row(0, 60);
        CHECK.finds("measure of sixty", x, SIZE, () -> x.measure(3, 0));
    }

    private static void breaks() {
        TiedRow x = Check.worldOf("n3A<BB<C");
        Check.layOrder(x, 0, "ABC");
        CHECK.due("keeps all", x.breaks(0), TiedRow.NONE);
        Check.layOrder(x, 0, "CBA");
        CHECK.due("breaks both", x.breaks(0), 0);
        x.off(0, 1);
        CHECK.due("breaks the other", x.breaks(0), 1);
        x.off(1, 1);
        CHECK.due("both are off", x.breaks(0), TiedRow.NONE);
        x.rule(0, 0, 0, 0);
        CHECK.due("a note", x.breaks(0), TiedRow.NONE);
        for (int r : new int[] {-1, 6, LOW, HIGH}) {
            CHECK.refuses("breaks(" + r + ")", x, TiedRow.BAD, () -> x.breaks(r));
        }
        CHECK.finds("breaks of none", x, NOTHING, () -> x.breaks(1));
        x.row(1, 2);
        CHECK.finds("breaks of two", x, SIZE, () -> x.breaks(1));
        x.row(1, 3);
        CHECK.finds("breaks of no order", x, UNLIKE, () -> x.breaks(1));
    }

    private static final String[] ORDERS = {"ABCD", "ACBD", "BADC", "BDAC", "CABD", "DBAC", "DCBA", "ADCB"};

    /** Which of ORDERS keep a rule, first to last: 1 keeps, 0 breaks. */
    private static void keeps(String rule, String want) {
        TiedRow x = Check.worldOf("n4" + rule);
        for (int i = 0; i < ORDERS.length; i++) {
            Check.layOrder(x, 0, ORDERS[i]);
            int due = want.charAt(i) == '1' ? TiedRow.NONE : 0;
            CHECK.due(rule + " by " + ORDERS[i], x.breaks(0), due);
        }
    }

    private static void breaksByKind() {
        keeps("A<B", "11001001");
        keeps("A+B", "10001000");
        keeps("B@1", "10000100");
        keeps("B@4", "00000000");
        keeps("B^1", "10110100");
        keeps("B^0", "00110000");
        keeps("B^3", "11111111");
        keeps("A!B", "01010001");
        keeps("B?AC", "10000010");
        keeps("A?BC", "00111100");
    }

    private static void gap() {
        TiedRow x = Check.worldOf("n4AB3AC1BD2");
        Check.layOrder(x, 2, "BACD");
        int[][] want = {{5, 1}, {3, 2}, {2, 1}};
        for (int i = 0; i < 3; i++) {
            CHECK.due("gap " + i, x.gap(2, i), want[i][0]);
            CHECK.due("gap " + i + " holds", x.asked(), want[i][1]);
        }
        CHECK.finds("gap 3", x, BEYOND, () -> x.gap(2, 3));
        CHECK.finds("gap 8", x, BEYOND, () -> x.gap(2, 8));
        for (int[] b : new int[][] {{2, -1}, {2, 9}, {2, LOW}, {2, HIGH}, {-1, 0}, {6, 0}, {LOW, 0}, {HIGH, 0}}) {
            CHECK.refuses("gap(" + b[0] + ", " + b[1] + ")", x, TiedRow.BAD, () -> x.gap(b[0], b[1]));
        }
        CHECK.finds("gap of none", x, NOTHING, () -> x.gap(0, 8));
        x.row(0, 3);
        CHECK.finds("gap of three", x, SIZE, () -> x.gap(0, 8));
        x.row(0, 4);
        CHECK.finds("gap of no order", x, UNLIKE, () -> x.gap(0, 8));
        TiedRow ten = Check.worldOf("n10AJ7");
        Check.layOrder(ten, 0, "ABCDEFGHIJ");
        CHECK.due("gap 8 of ten", ten.gap(0, 8), 7);
        TiedRow one = Check.worldOf("n1");
        one.row(0, 1);
        CHECK.finds("gap of one thing", one, BEYOND, () -> one.gap(0, 0));
    }

    private static void bounds(String signs, int... want) {
        TiedRow x = signs.isEmpty() ? new TiedRow() : Check.worldOf(signs);
        for (int m = 0; m < 5; m++) {
            CHECK.due("bound " + m + " of " + signs, x.bound(m), want[m]);
        }
    }

    private static void bound() {
        bounds("", 0, 0, 0, 0, 0);
        bounds("n1", 0, 0, 0, 0, 0);
        bounds("n4", 0, 0, 0, 0, 0);
        bounds("n2AB5", 5, 3, 1, 1, 1);
        // B: 2 at 1, 1 at 1; A: 2; C: 1: together 6.
        bounds("n3AB2BC1", 3, 2, 1, 2, 1);
        // A: 9 and 5 at 1, 3 at 2: 20; the others 9, 5, 3: 37 by 2 is 19, cut up.
        bounds("n4AB9AC3AD5", 19, 9, 1, 3, 2);
        // A: four at 1 1 2 2 is 12, the others 2 each: 20 by 2; two groups, and F alone has no tie.
        bounds("n6AB2AC2AD2AE2", 10, 4, 0, 4, 2);
        bounds("n6AB1CD1EF1", 3, 1, 1, 3, 1);
        bounds("n10AB1BC1CD1DE1EF1FG1GH1HI1IJ1", 9, 1, 1, 9, 1);
        bounds("n10JI1IH1HG1GF1FE1ED1DC1CB1BA1A@5J@5", 9, 1, 1, 9, 1);
        TiedRow x = Check.worldOf("n3AB2BC1");
        for (int m : new int[] {-1, 5, LOW, HIGH}) {
            CHECK.refuses("bound(" + m + ")", x, TiedRow.BAD, () -> x.bound(m));
        }
    }
}
