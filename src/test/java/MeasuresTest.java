/** Promises 18, 19, 20 and 27, and the terms of measures and bounds. */
public final class MeasuresTest {
    private static final int LOW = Check.LOW, HIGH = Check.HIGH, BAD = TiedRow.BAD, NONE = TiedRow.NONE;
    private static final int NOTHING = Check.NOTHING, BEYOND = Check.BEYOND, UNLIKE = Check.UNLIKE, SIZE = Check.SIZE;
    private static final int SUM = 0, CUT = 1, HELD = 2, PROFILE = 3, LONG = 4;
    private static final int[] NO_ROWS = Check.outside(0, 5), NO_MEASURES = Check.outside(0, 4);
    private static final String WORLD = "n3 AB2 BC1 A<B";
    private static final String RISING = "ABCDEFGHIJ";
    private static final Check CHECK = new Check("MeasuresTest");

    public static void main(String[] args) {
        gaps();
        eachMeasure();
        withoutAny();
        measure();
        measureRefused();
        breaks();
        breaksRefused();
        gap();
        gapRefused();
        boundOfSum();
        otherBounds();
        bound();
        boundRefused();
        CHECK.end();
    }

    private static void measured(TiedRow x, int m, String letters, int want) {
        Check.layOrder(x, 0, letters);
        CHECK.answers("measure " + m + " of " + letters, x, want, () -> x.measure(m, 0));
    }

    private static void measures(TiedRow x, String letters, int... want) {
        for (int m = 0; m < 5; m++) {
            measured(x, m, letters, want[m]);
        }
    }

    /** Ten things, each tied to each by 9: as much as may be. */
    private static TiedRow fullest() {
        TiedRow x = Check.worldOf("n10");
        for (int a = 0; a < 10; a++) {
            for (int b = a + 1; b < 10; b++) {
                x.tie(a, b, 9);
            }
        }
        return x;
    }

    // ---- the terms of measures

    private static void gaps() {
        CHECK.says(0, "2 MEASURES of an ORDER. A GAP is between two places next to one another.");
        for (int n = 1; n <= 10; n++) {
            TiedRow x = Check.rich("n" + n);
            for (int i = 0; i <= 8; i++) {
                int gap = i;
                if (i < n - 1) {
                    CHECK.due("gap " + i + " of " + n, x.gap(0, i), 0);
                } else {
                    CHECK.finds("gap " + i + " of " + n, x, BEYOND, () -> x.gap(0, gap));
                }
            }
        }
    }

    private static void eachMeasure() {
        // A to E, C to E; weights across the gaps of ABCDE are 9, 9, 12, 12, held are 1, 1, 2, 2.
        TiedRow x = Check.worldOf("n5 AE9 CE3");
        CHECK.says(0, "0 SUM: of all TIES WEIGHT times how far its places are apart, together.");
        measured(x, SUM, "ABCDE", 9 * 4 + 3 * 2);
        measured(x, SUM, "BDACE", 9 * 2 + 3);
        measured(x, SUM, "CEABD", 9 + 3);
        CHECK.says(0, "1 CUT: the greatest, over GAPS, of WEIGHTS of all TIES across it together.");
        measured(x, CUT, "ABCDE", 12);
        measured(x, CUT, "AECBD", 9);
        measured(x, CUT, "EACBD", 12);
        measured(x, CUT, "CBDEA", 9);
        CHECK.says(0, "2 HELD: the greatest, over GAPS, of how many THINGS ahead of it have a TIE across it.");
        measured(x, HELD, "ABCDE", 2);
        measured(x, HELD, "EABDC", 1);
        measured(x, HELD, "ACEBD", 2);
        measured(x, HELD, "AECBD", 1);
        CHECK.says(0, "3 PROFILE: of these over all GAPS together.");
        measured(x, PROFILE, "ABCDE", 1 + 1 + 2 + 2);
        measured(x, PROFILE, "EABDC", 4);
        measured(x, PROFILE, "AECBD", 2);
        CHECK.says(0, "4 LONG: how far places of a TIE are apart at most.");
        measured(x, LONG, "ABCDE", 4);
        measured(x, LONG, "BDAEC", 1);
        measured(x, LONG, "AEBDC", 3);
    }

    private static void withoutAny() {
        CHECK.says(0, "Without GAPS, without TIES 0.");
        measures(new TiedRow(), "", 0, 0, 0, 0, 0);
        measures(Check.worldOf("n1"), "A", 0, 0, 0, 0, 0);
        for (int n = 2; n <= 10; n++) {
            measures(Check.worldOf("n" + n), RISING.substring(0, n), 0, 0, 0, 0, 0);
        }
        TiedRow x = Check.worldOf("n2 AB9");
        measures(x, "BA", 9, 9, 1, 1, 1);
        x.tie(0, 1, 0);
        measures(x, "BA", 0, 0, 0, 0, 0);
    }

    // ---- 18 measure

    private static void measure() {
        CHECK.says(18, "A MEASURE (0 .. 4) of an ORDER in a ROW.");
        TiedRow x = Check.worldOf(WORLD);
        measures(x, "ABC", 3, 2, 1, 2, 1);
        measures(x, "ACB", 5, 3, 2, 3, 2);
        // Those that are not allowed have measures, too.
        measures(x, "BAC", 4, 3, 1, 2, 2);
        measures(x, "BCA", 5, 3, 1, 2, 2);
        measures(x, "CAB", 4, 3, 2, 3, 2);
        measures(x, "CBA", 3, 2, 1, 2, 1);
        measures(fullest(), RISING, 9 * 165, 9 * 25, 9, 45, 9);
        measures(Check.worldOf("n10 AJ1"), RISING, 9, 1, 1, 9, 9);
        measures(Check.worldOf("n10 AJ9"), "BCDEFGHIJA", 9, 9, 1, 1, 1);
        for (int r = 0; r < 6; r++) {
            Check.layOrder(x, r, "CAB");
            CHECK.due("in row " + r, x.measure(SUM, r), 4);
        }
    }

    private static void measureRefused() {
        TiedRow x = Check.rich(WORLD);
        CHECK.says(18, "BAD; NOTHING;");
        for (int m : NO_MEASURES) {
            for (int r : new int[] {0, 2, 3, 5}) {
                CHECK.refuses("measure(" + m + ", " + r + ")", x, BAD, () -> x.measure(m, r));
            }
        }
        for (int r : NO_ROWS) {
            CHECK.refuses("measure(0, " + r + ")", x, BAD, () -> x.measure(0, r));
        }
        CHECK.finds("a missing one", x, NOTHING, () -> x.measure(4, 5));
        CHECK.says(18, "SIZE: not n;");
        CHECK.finds("of four", x, SIZE, () -> x.measure(1, 2));
        CHECK.finds("of sixty", x, SIZE, () -> x.measure(3, 4));
        Check.layRow(x, 2, 0, 1);
        CHECK.finds("of two", x, SIZE, () -> x.measure(0, 2));
        Check.layRow(x, 2, 9, 9);
        CHECK.finds("of two that are none", x, SIZE, () -> x.measure(0, 2));
        x.row(2, 0);
        CHECK.finds("of none", x, SIZE, () -> x.measure(2, 2));
        TiedRow none = new TiedRow();
        none.row(0, 1);
        CHECK.finds("of one, without things", none, SIZE, () -> none.measure(0, 0));
        CHECK.says(18, "UNLIKE: no ORDER.");
        CHECK.finds("numbers that are none", x, UNLIKE, () -> x.measure(0, 3));
        for (int[] wrong : new int[][] {{0, 0, 0}, {0, 1, 3}, {0, 1, -1}, {0, 1, 1}, {2, 1, 2}, {0, 1, 34}, {32, 1, 2}, {0, 1, LOW},
            {0, 1, HIGH}, {1, 2, 3}}) {
            Check.layRow(x, 3, wrong);
            for (int m = 0; m < 5; m++) {
                int measure = m;
                CHECK.finds("no order", x, UNLIKE, () -> x.measure(measure, 3));
            }
        }
    }

    // ---- 19 breaks

    private static void breaks() {
        CHECK.says(19, "The first RULE (not OFF) that an ORDER in a ROW does not keep; NONE: it is ALLOWED.");
        TiedRow x = Check.worldOf("n3 B<C A<B A<C C@2 A@0 B@1 A+B B+C");
        Check.layOrder(x, 0, "ABC");
        CHECK.answers("keeps all eight", x, NONE, () -> x.breaks(0));
        Check.layOrder(x, 0, "CBA");
        for (int k = 0; k < 8; k++) {
            int first = k == 5 ? 6 : k;
            CHECK.answers("the first of those left", x, first, () -> x.breaks(0));
            x.off(k, 1);
        }
        CHECK.answers("all are off", x, NONE, () -> x.breaks(0));
        x.off(7, 0);
        CHECK.answers("the last one alone", x, 7, () -> x.breaks(0));
        x.off(0, 0);
        CHECK.answers("the first one again", x, 0, () -> x.breaks(0));
        x.back(0);
        CHECK.answers("without rules", x, NONE, () -> x.breaks(0));
        x.rule(0, 0, 0, 0);
        CHECK.answers("by a note", x, NONE, () -> x.breaks(0));
        TiedRow none = new TiedRow();
        none.rule(0, 0, 0, 0);
        none.row(0, 0);
        CHECK.answers("without things", none, NONE, () -> none.breaks(0));
    }

    private static void breaksRefused() {
        CHECK.says(19, "BAD; NOTHING; SIZE; UNLIKE.");
        TiedRow x = Check.rich(WORLD);
        for (int r : NO_ROWS) {
            CHECK.refuses("breaks(" + r + ")", x, BAD, () -> x.breaks(r));
        }
        CHECK.finds("of a missing one", x, NOTHING, () -> x.breaks(5));
        CHECK.finds("of four", x, SIZE, () -> x.breaks(2));
        CHECK.finds("of no order", x, UNLIKE, () -> x.breaks(3));
        Check.layRow(x, 2, 9, 9);
        CHECK.finds("of two that are none", x, SIZE, () -> x.breaks(2));
    }

    // ---- 20 gap

    private static void gaps(TiedRow x, String letters, int[][] want) {
        Check.layOrder(x, 2, letters);
        for (int i = 0; i < want.length; i++) {
            CHECK.due("gap " + i + " of " + letters, x.gap(2, i), want[i][0]);
            CHECK.due("held at " + i + " of " + letters, x.asked(), want[i][1]);
        }
    }

    private static void gap() {
        CHECK.says(20, "Of GAP i (0 .. n less 2) of an ORDER in a ROW: WEIGHTS across it together; "
            + "how many ahead of it are held by asked().");
        gaps(Check.worldOf("n4 AB3 AC1 BD2"), "BACD", new int[][] {{5, 1}, {3, 2}, {2, 1}});
        gaps(Check.worldOf("n4 AB3 AC1 BD2"), "DCAB", new int[][] {{2, 1}, {3, 2}, {5, 2}});
        gaps(Check.worldOf("n2 AB9"), "AB", new int[][] {{9, 1}});
        gaps(Check.worldOf("n2"), "AB", new int[][] {{0, 0}});
        gaps(Check.worldOf("n3 AB4 B<A"), "ABC", new int[][] {{4, 1}, {0, 0}});
        int[][] most = new int[9][];
        for (int i = 0; i < 9; i++) {
            most[i] = new int[] {9 * (i + 1) * (9 - i), i + 1};
        }
        gaps(fullest(), RISING, most);
        TiedRow ten = Check.worldOf("n10 IJ7");
        Check.layOrder(ten, 0, RISING);
        CHECK.due("gap 7 of ten", ten.gap(0, 7), 0);
        CHECK.due("none is held", ten.asked(), 0);
        CHECK.due("gap 8 of ten", ten.gap(0, 8), 7);
        CHECK.due("one is held", ten.asked(), 1);
    }

    private static void gapRefused() {
        TiedRow x = Check.rich(WORLD);
        CHECK.says(20, "BAD: not 0 .. 8;");
        for (int i : Check.outside(0, 8)) {
            for (int r : new int[] {0, 2, 3, 5}) {
                CHECK.refuses("gap(" + r + ", " + i + ")", x, BAD, () -> x.gap(r, i));
            }
        }
        for (int r : NO_ROWS) {
            CHECK.refuses("gap(" + r + ", 0)", x, BAD, () -> x.gap(r, 0));
            CHECK.refuses("gap(" + r + ", 8)", x, BAD, () -> x.gap(r, 8));
        }
        CHECK.says(20, "NOTHING; SIZE; UNLIKE;");
        CHECK.finds("of a missing one", x, NOTHING, () -> x.gap(5, 0));
        CHECK.finds("of four", x, SIZE, () -> x.gap(2, 0));
        CHECK.finds("of no order", x, UNLIKE, () -> x.gap(3, 0));
        Check.layRow(x, 2, 9, 9);
        CHECK.finds("of two that are none", x, SIZE, () -> x.gap(2, 0));
        CHECK.says(20, "BEYOND: no such GAP.");
        for (int i = 2; i <= 8; i++) {
            int gap = i;
            CHECK.finds("gap " + i + " of three", x, BEYOND, () -> x.gap(0, gap));
        }
        TiedRow one = Check.rich("n1");
        CHECK.finds("gap 0 of one", one, BEYOND, () -> one.gap(0, 0));
        TiedRow none = Check.rich("");
        CHECK.finds("gap 0 of none", none, BEYOND, () -> none.gap(0, 0));
        CHECK.says(20, "(BEYOND last.)");
        for (int i = 2; i <= 8; i++) {
            int gap = i;
            CHECK.finds("of a missing one", x, NOTHING, () -> x.gap(5, gap));
            CHECK.finds("of two", x, SIZE, () -> x.gap(2, gap));
            CHECK.finds("of no order", x, UNLIKE, () -> x.gap(3, gap));
        }
    }

    // ---- 27 bound

    private static void bounded(String signs, int m, int want) {
        TiedRow x = Check.worldOf(signs);
        CHECK.answers("bound " + m + " of '" + signs + "'", x, want, () -> x.bound(m));
    }

    private static void boundOfSum() {
        CHECK.says(0, "A THING's WEIGHTS, the greatest first, are to be at 1, 1, 2, 2, 3, 3, .. from it at best: "
            + "all these products together of all THINGS, by 2 (cut up), bound SUM.");
        bounded("", SUM, 0);
        bounded("n1", SUM, 0);
        bounded("n10", SUM, 0);
        bounded("n2 AB1", SUM, 1);
        bounded("n2 AB9", SUM, 9);
        // B: 2 and 1 at 1; A: 2; C: 1: together 6.
        bounded("n3 AB2 BC1", SUM, 3);
        // A: 9 and 5 at 1, 3 at 2: 20; the others 9, 5, 3: 37 by 2 is 19, cut up.
        bounded("n4 AB9 AC3 AD5", SUM, 19);
        // A: 3 and 5 at 1, 1 at 2: 10; the others 9: 19 by 2 is 10; 1, 3 at 1 and 5 at 2 were 23 by 2.
        bounded("n4 AB1 AC3 AD5", SUM, 10);
        // A: four at 1 1 2 2 is 12, the others 2 each: 20 by 2.
        bounded("n6 AB2 AC2 AD2 AE2", SUM, 10);
        // A: 9 8 at 1, 7 6 at 2, 5 4 at 3, 3 2 at 4, 1 at 5: 17 + 26 + 27 + 20 + 5 = 95; the others 45: 140 by 2.
        bounded("n10 AB1AC2AD3AE4AF5AG6AH7AI8AJ9", SUM, 70);
        // Each has nine at 1 1 2 2 3 3 4 4 5, by 9: ten times 225 by 2.
        CHECK.due("as much as may be", fullest().bound(SUM), 1125);
    }

    private static void otherBounds() {
        CHECK.says(0, "The most TIES of a THING by 2 (cut up) bound LONG;");
        int[] halves = {0, 1, 1, 2, 2, 3, 3, 4, 4, 5};
        StringBuilder star = new StringBuilder("n10");
        for (int ties = 0; ties <= 9; ties++) {
            bounded(star.toString(), LONG, halves[ties]);
            star.append('J').append((char) ('A' + ties)).append(9);
        }
        bounded("", LONG, 0);
        bounded("n4 AB9 AC3 AD5", LONG, 2);
        bounded("n6 AB1 CD1 EF1", LONG, 1);
        bounded("n6 AB0 CD1 DE1 DF1", LONG, 2);
        CHECK.says(0, "the most WEIGHT of a THING by 2 (cut up) CUT;");
        for (int w = 0; w <= 9; w++) {
            bounded("n3 BC" + w, CUT, (w + 1) / 2);
            bounded("n3 AB" + w + " BC" + w, CUT, w);
        }
        bounded("", CUT, 0);
        bounded("n4 AB9 AC3 AD5", CUT, 9);
        CHECK.due("as much as may be", fullest().bound(CUT), 41);
        CHECK.says(0, "the least number of TIES of a THING HELD (0 without THINGS);");
        bounded("", HELD, 0);
        bounded("n1", HELD, 0);
        bounded("n2 AB9", HELD, 1);
        bounded("n3 AB2 BC1", HELD, 1);
        bounded("n3 AB2 BC1 CA3", HELD, 2);
        bounded("n4 AB2 BC1 CA3", HELD, 0);
        CHECK.due("as many as may be", fullest().bound(HELD), 9);
        CHECK.says(0, "n less how many groups of THINGS there are that hang together by TIES PROFILE.");
        bounded("", PROFILE, 0);
        bounded("n1", PROFILE, 0);
        bounded("n10", PROFILE, 0);
        bounded("n6 AB1 CD1 EF1", PROFILE, 3);
        bounded("n6 AB1 CD1 EF1 FA1", PROFILE, 4);
        bounded("n10 AB1BC1CD1DE1EF1FG1GH1HI1IJ1", PROFILE, 9);
        bounded("n10 AJ1JB1BI1IC1CH1HD1DG1GE1EF1", PROFILE, 9);
        bounded("n10 AJ1BI1CH1DG1EF1", PROFILE, 5);
        CHECK.due("as many as may be", fullest().bound(PROFILE), 9);
    }

    private static void bound() {
        CHECK.says(27, "A bound of a MEASURE.");
        int[][] want = {{3, 2, 1, 2, 1}, {1125, 41, 9, 9, 5}, {0, 0, 0, 0, 0}};
        TiedRow[] worlds = {Check.worldOf("n3 AB2 BC1"), fullest(), new TiedRow()};
        for (int i = 0; i < 3; i++) {
            TiedRow x = worlds[i];
            for (int m = 0; m < 5; m++) {
                int measure = m;
                CHECK.answers("bound " + m, x, want[i][m], () -> x.bound(measure));
            }
        }
        // Rules say nothing of it, though no order be allowed; nor is LONG spent.
        bounded("n9 AB2 BC1 A<B B<A", LONG, 1);
        bounded("n9 AB2 BC1 A<B B<A", SUM, 3);
    }

    private static void boundRefused() {
        CHECK.says(27, "BAD.");
        TiedRow x = Check.rich(WORLD);
        for (int m : NO_MEASURES) {
            CHECK.refuses("bound(" + m + ")", x, BAD, () -> x.bound(m));
        }
    }
}
