/** Promises 10 to 17: faults, worlds, ties and rules. */
public final class WorldTest {
    private static final int NOTHING = 1, UNLIKE = 3;
    private static final int LOW = Integer.MIN_VALUE, HIGH = Integer.MAX_VALUE;
    private static final Check CHECK = new Check("WorldTest");

    public static void main(String[] args) {
        faults();
        faultRefused();
        world();
        worldRefused();
        tie();
        ruleAndTold();
        ruleRefused();
        off();
        back();
        mark();
        CHECK.end();
    }

    private static void fault(String signs, int want) {
        TiedRow x = new TiedRow();
        Check.write(x, 2, signs);
        CHECK.due("fault of '" + signs + "'", x.fault(2), want);
        CHECK.due("world of '" + signs + "'", x.world(2), want == TiedRow.NONE ? x.count(0) : TiedRow.STATE);
    }

    private static void faults() {
        for (String fine : new String[] {"n1", " n1 ", "n10", "n9", "n05", "n3AB1", "n3 A<B", "n3A<BB+CA@9C^0A!BA?BC",
            "n3AB0AB9BA5", "n10IJ9", "n2   AB1   ", "n3C?AB", "n1A@0", "n1A^9", "n3 A<B B<A"}) {
            fault(fine, TiedRow.NONE);
        }
        String[] wrong = {
            "0|", "3|   ", "0|N3", "0|3", "1|n", "1|n 3", "2|n0", "3|n00", "3|n11", "3|n99", "3|n100", "2|n0A", "1|nA",
            "2|n3n3", "2|n3a", "2|n3D", "3|n3 D", "3|n2A", "3|n2 C1", "3|n3AA1", "3|n3AD1", "3|n3A B1", "3|n3A1",
            "4|n3AB", "4|n3AB B", "4|n3ABC", "3|n3A=B", "4|n3A<", "4|n3A< B", "4|n3A<A", "4|n3A<D", "4|n3A<1",
            "4|n3A@", "4|n3A@B", "4|n3A@-", "4|n3A^", "4|n3A^A", "4|n3A!A", "4|n3A!1", "4|n3A+A", "4|n3A+ ",
            "4|n3A?", "4|n3A?A", "5|n3A?B", "5|n3A?BB", "5|n3A?BA", "5|n3A?BD", "5|n3A?B C", "5|n3A@12", "5|n3AB12",
            "26|n3A<BA<BA<BA<BA<BA<BA<BA<BA<B", "28|n3A<BA<BA<BA<BA<BA<BA<BA<B  A@1",
            "27|n3A<BA<BA<BA<BA<BA<BA<BA<BA=", "27|n3A<BA<BA<BA<BA<BA<BA<BA<BA",
        };
        for (String line : wrong) {
            int bar = line.indexOf('|');
            fault(line.substring(bar + 1), Integer.parseInt(line.substring(0, bar)));
        }
        fault("n3A<BA<BA<BA<BA<BA<BA<BA<BAB3", TiedRow.NONE);
        TiedRow x = new TiedRow();
        Check.write(x, 0, "n3");
        x.put(0, 1, -77);
        CHECK.due("fault of a byte below 0", x.fault(0), 1);
    }

    private static void faultRefused() {
        TiedRow x = Check.worldOf("n3AB1");
        for (int t : new int[] {-1, 4, LOW, HIGH}) {
            CHECK.refuses("fault(" + t + ")", x, TiedRow.BAD, () -> x.fault(t));
            CHECK.refuses("world(" + t + ")", x, TiedRow.BAD, () -> x.world(t));
        }
        CHECK.finds("fault of none", x, NOTHING, () -> x.fault(1));
        CHECK.finds("world of none", x, NOTHING, () -> x.world(1));
        Check.write(x, 0, "n4CD7A<BA=");
        long digest = x.digest();
        CHECK.due("a fault", x.fault(0), 9);
        CHECK.due("fault() changes nothing", x.digest(), digest);
    }

    private static void dueTie(TiedRow x, int a, int b, int want) {
        CHECK.due("tie(" + a + ", " + b + ")", x.tie(a, b, TiedRow.NONE), want);
        CHECK.due("tie(" + b + ", " + a + ")", x.tie(b, a, TiedRow.NONE), want);
    }

    private static void dueRule(TiedRow x, int k, int... want) {
        for (int what = 0; what < 5; what++) {
            CHECK.due("told(" + k + ", " + what + ")", x.told(k, what), 1);
            CHECK.due("told(" + k + ", " + what + ") by asked()", x.asked(), want[what]);
        }
    }

    private static void world() {
        TiedRow x = new TiedRow();
        Check.write(x, 0, " n4 AB3BC9  CB2DA1CD5DC0 A<BB+C C@3D^9A!D B?DA ");
        CHECK.due("world", x.world(0), 4);
        CHECK.due("things", x.count(0), 4);
        CHECK.due("ties", x.count(1), 3);
        CHECK.due("rules", x.count(2), 6);
        dueTie(x, 0, 1, 3);
        dueTie(x, 1, 2, 2);
        dueTie(x, 0, 3, 1);
        dueTie(x, 2, 3, 0);
        dueTie(x, 0, 2, 0);
        dueRule(x, 0, 1, 0, 1, 0, 0);
        dueRule(x, 1, 2, 1, 2, 0, 0);
        dueRule(x, 2, 3, 2, 3, 0, 0);
        dueRule(x, 3, 4, 3, 9, 0, 0);
        dueRule(x, 4, 5, 0, 3, 0, 0);
        dueRule(x, 5, 6, 1, 3, 0, 0);
        x.off(5, 1);
        x.row(1, 2);
        Check.write(x, 0, "n2B<A");
        CHECK.due("world anew", x.world(0), 2);
        CHECK.due("things anew", x.count(0), 2);
        CHECK.due("no ties anew", x.count(1), 0);
        CHECK.due("rules anew", x.count(2), 1);
        CHECK.due("none is off", x.count(4), 0);
        dueTie(x, 0, 1, 0);
        dueRule(x, 0, 1, 1, 0, 0, 0);
        CHECK.due("its rows stay", x.count(5), 1);
        CHECK.due("its texts stay", x.count(6), 1);
        Check.write(x, 1, "n10IJ8");
        CHECK.due("a great world", x.world(1), 10);
        dueTie(x, 8, 9, 8);
        Check.write(x, 1, "n3");
        x.world(1);
        Check.write(x, 1, "n10");
        x.world(1);
        dueTie(x, 8, 9, 0);
    }

    private static void worldRefused() {
        TiedRow x = Check.worldOf("n3AB1B<A");
        Check.write(x, 0, "n4CD7A<B n");
        CHECK.refuses("world of a fault", x, TiedRow.STATE, () -> x.world(0));
        CHECK.due("the world stays", x.tie(0, 1, TiedRow.NONE), 1);
        x.text(1, 0);
        CHECK.refuses("world of an empty text", x, TiedRow.STATE, () -> x.world(1));
    }

    private static void tie() {
        TiedRow x = Check.worldOf("n3AB4");
        CHECK.due("tie", x.tie(1, 0, 9), 4);
        CHECK.due("tie stays", x.tie(0, 1, TiedRow.NONE), 9);
        CHECK.due("tie off", x.tie(0, 1, 0), 9);
        CHECK.due("no tie", x.count(1), 0);
        CHECK.due("tie on", x.tie(2, 0, 1), 0);
        CHECK.due("a tie", x.count(1), 1);
        dueTie(x, 0, 2, 1);
        int[][] bad = {{0, 0, 1}, {-1, 0, 1}, {0, 3, 1}, {3, 0, 1}, {0, LOW, 1}, {HIGH, 0, 1}, {0, 1, 10}, {0, 1, -1},
            {0, 1, -8}, {0, 1, -10}, {0, 1, HIGH}, {0, 1, LOW}, {0, 0, TiedRow.NONE}};
        for (int[] b : bad) {
            CHECK.refuses("tie(" + b[0] + ", " + b[1] + ", " + b[2] + ")", x, TiedRow.BAD, () -> x.tie(b[0], b[1], b[2]));
        }
        CHECK.refuses("tie without things", new TiedRow(), TiedRow.BAD, () -> new TiedRow().tie(0, 1, 1));
    }

    private static void ruleAndTold() {
        TiedRow x = Check.worldOf("n3");
        CHECK.due("a note", x.rule(0, LOW, HIGH, 77), 0);
        CHECK.due("AHEAD", x.rule(1, 2, 1, 77), 1);
        CHECK.due("RIGHT", x.rule(2, 0, 1, LOW), 2);
        CHECK.due("PLACED", x.rule(3, 2, 9, -1), 3);
        CHECK.due("EARLY", x.rule(4, 1, 0, 5), 4);
        CHECK.due("APART", x.rule(5, 2, 0, 0), 5);
        CHECK.due("BETWEEN", x.rule(6, 2, 1, 0), 6);
        dueRule(x, 0, 0, 0, 0, 0, 0);
        dueRule(x, 1, 1, 2, 1, 0, 0);
        dueRule(x, 2, 2, 0, 1, 0, 0);
        dueRule(x, 3, 3, 2, 9, 0, 0);
        dueRule(x, 4, 4, 1, 0, 0, 0);
        dueRule(x, 5, 5, 2, 0, 0, 0);
        dueRule(x, 6, 6, 2, 1, 0, 0);
        x.off(6, 1);
        dueRule(x, 6, 6, 2, 1, 0, 1);
        CHECK.due("the eighth", x.rule(6, 0, 1, 2), 7);
        dueRule(x, 7, 6, 0, 1, 2, 0);
        CHECK.refuses("a ninth", x, TiedRow.FULL, () -> x.rule(1, 0, 1, 0));
        CHECK.refuses("a ninth note", x, TiedRow.FULL, () -> x.rule(0, 0, 0, 0));
        CHECK.refuses("a ninth that is bad", x, TiedRow.BAD, () -> x.rule(1, 0, 0, 0));
        for (int[] b : new int[][] {{-1, 0}, {8, 0}, {LOW, 0}, {HIGH, 0}, {0, -1}, {0, 5}, {0, LOW}, {0, HIGH}}) {
            CHECK.refuses("told(" + b[0] + ", " + b[1] + ")", x, TiedRow.BAD, () -> x.told(b[0], b[1]));
        }
    }

    private static void ruleRefused() {
        TiedRow x = Check.worldOf("n3");
        int[][] bad = {{-1, 0, 1, 2}, {7, 0, 1, 2}, {LOW, 0, 1, 2}, {HIGH, 0, 1, 2}, {1, 0, 0, 2}, {1, 3, 0, 2},
            {1, 0, 3, 2}, {1, -1, 0, 2}, {2, 1, 1, 0}, {2, 0, HIGH, 0}, {3, 3, 0, 0}, {3, 0, 10, 0}, {3, 0, -1, 0},
            {4, -1, 0, 0}, {4, 0, 10, 0}, {4, 0, LOW, 0}, {5, 2, 2, 0}, {5, 2, 3, 0}, {6, 0, 1, 1}, {6, 0, 1, 0},
            {6, 0, 0, 1}, {6, 0, 1, 3}, {6, 0, 1, -1}, {6, 3, 1, 0}, {6, 0, 4, 1}};
        for (int[] b : bad) {
            String what = "rule(" + b[0] + ", " + b[1] + ", " + b[2] + ", " + b[3] + ")";
            CHECK.refuses(what, x, TiedRow.BAD, () -> x.rule(b[0], b[1], b[2], b[3]));
        }
        TiedRow none = new TiedRow();
        CHECK.due("a note without things", none.rule(0, 0, 0, 0), 0);
        CHECK.refuses("a rule without things", none, TiedRow.BAD, () -> none.rule(3, 0, 0, 0));
    }

    private static void off() {
        TiedRow x = Check.worldOf("n3A<BB<C");
        CHECK.due("on still", x.off(1, 0), 0);
        CHECK.due("off", x.off(1, 1), 0);
        CHECK.due("off still", x.off(1, 1), 1);
        CHECK.due("one is off", x.count(4), 1);
        CHECK.due("the other counts", x.all(), 3);
        CHECK.due("on again", x.off(1, 0), 1);
        CHECK.due("both count", x.all(), 1);
        for (int[] b : new int[][] {{-1, 0}, {2, 0}, {LOW, 1}, {HIGH, 1}, {0, 2}, {0, -1}, {0, LOW}, {0, HIGH}}) {
            CHECK.refuses("off(" + b[0] + ", " + b[1] + ")", x, TiedRow.BAD, () -> x.off(b[0], b[1]));
        }
    }

    private static void back() {
        TiedRow x = Check.worldOf("n3A<BB<CA@0");
        CHECK.due("back to all", x.back(3), 0);
        x.off(1, 1);
        x.off(2, 1);
        for (int n : new int[] {-1, 4, LOW, HIGH}) {
            CHECK.refuses("back(" + n + ")", x, TiedRow.BAD, () -> x.back(n));
        }
        CHECK.due("back", x.back(1), 2);
        CHECK.due("one rule", x.count(2), 1);
        CHECK.due("none is off", x.count(4), 0);
        CHECK.due("it counts alone", x.all(), 3);
        CHECK.due("a rule anew", x.rule(1, 1, 2, 0), 1);
        dueRule(x, 1, 1, 1, 2, 0, 0);
        CHECK.due("back to none", x.back(0), 2);
        CHECK.due("back from none", x.back(0), 0);
        CHECK.due("all orders", x.all(), 6);
    }

    private static void mark() {
        TiedRow x = Check.worldOf("n4 C<A D+B B@3 C^2 D!B A?DC D^7");
        x.rule(0, 0, 0, 0);
        int[][] want = {{0, 1, 2}, {1, 1, 3}, {1, 2, 1}, {2, 3, 3}, {3, 4, 2}, {6, 4, 3}, {4, 5, 1}, {5, 5, 2}, {5, 6, 0}};
        for (int[] w : want) {
            CHECK.due("mark(" + w[0] + ", " + w[1] + ")", x.mark(w[0], w[1]), w[2]);
        }
        int marks = 0;
        for (int k = 0; k < 8; k++) {
            for (int kind = 1; kind <= 6; kind++) {
                if (x.mark(k, kind) != TiedRow.FINDING) {
                    marks++;
                }
            }
        }
        CHECK.due("marks there are", marks, want.length);
        x.off(1, 1);
        CHECK.due("mark of one that is off", x.mark(1, 2), 1);
        CHECK.finds("mark of another kind", x, UNLIKE, () -> x.mark(0, 2));
        CHECK.finds("mark of a note", x, UNLIKE, () -> x.mark(7, 1));
        CHECK.finds("mark of APART as BETWEEN", x, UNLIKE, () -> x.mark(4, 6));
        for (int[] b : new int[][] {{-1, 1}, {8, 1}, {LOW, 1}, {HIGH, 1}, {0, 0}, {7, 0}, {0, 7}, {0, -1}, {0, HIGH}}) {
            CHECK.refuses("mark(" + b[0] + ", " + b[1] + ")", x, TiedRow.BAD, () -> x.mark(b[0], b[1]));
        }
    }
}
