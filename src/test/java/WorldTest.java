/** Promises 10 to 17: faults, worlds, ties and rules. What a text may be, and a fault's place, is FaultTest's. */
public final class WorldTest {
    private static final int LOW = Check.LOW, HIGH = Check.HIGH, BAD = TiedRow.BAD, NONE = TiedRow.NONE;
    private static final int NOTHING = Check.NOTHING, UNLIKE = Check.UNLIKE;
    private static final int[] NO_TEXTS = Check.outside(0, 3);
    private static final String EIGHT_RULES = "n3 AB2 A<B B+C A@9 B^0 A!C C?AB A^9 C<A";
    private static final Check CHECK = new Check("WorldTest");

    public static void main(String[] args) {
        fault();
        faultRefused();
        world();
        worldAnew();
        worldRefused();
        tie();
        tieRefused();
        rule();
        ruleNumbers();
        ruleRefused();
        ruleFull();
        off();
        offRefused();
        back();
        backRefused();
        told();
        toldRefused();
        mark();
        markRefused();
        CHECK.end();
    }

    private static void dueTie(TiedRow x, int a, int b, int want) {
        CHECK.answers("tie(" + a + ", " + b + ")", x, want, () -> x.tie(a, b, NONE));
        CHECK.answers("tie(" + b + ", " + a + ")", x, want, () -> x.tie(b, a, NONE));
    }

    private static void dueRule(TiedRow x, int k, int... want) {
        for (int what = 0; what < 5; what++) {
            CHECK.due("told(" + k + ", " + what + ")", x.told(k, what), 1);
            CHECK.due("told(" + k + ", " + what + ") by asked()", x.asked(), want[what]);
        }
    }

    // ---- 10 fault

    private static void fault() {
        CHECK.says(10, "A FAULT of a TEXT; NONE: there is none.");
        TiedRow x = Check.rich("n3 AB2 BC1 A<B");
        CHECK.answers("a fault at its end", x, 9, () -> x.fault(0));
        CHECK.answers("120 bytes, the last one no blank", x, 119, () -> x.fault(1));
        CHECK.answers("no fault", x, NONE, () -> x.fault(3));
        x.text(2, 0);
        CHECK.answers("an empty one", x, 0, () -> x.fault(2));
        Check.write(x, 2, "n4 CD7");
        CHECK.answers("no fault, and no world by it", x, NONE, () -> x.fault(2));
        CHECK.due("three things", x.count(0), 3);
    }

    private static void faultRefused() {
        CHECK.says(10, "BAD; NOTHING.");
        TiedRow x = Check.rich("n3 AB2 BC1 A<B");
        for (int t : NO_TEXTS) {
            CHECK.refuses("fault(" + t + ")", x, BAD, () -> x.fault(t));
        }
        CHECK.finds("fault of a missing one", x, NOTHING, () -> x.fault(2));
        for (int t = 0; t < 4; t++) {
            int text = t;
            TiedRow none = new TiedRow();
            CHECK.finds("fault of none", none, NOTHING, () -> none.fault(text));
        }
    }

    // ---- 11 world

    private static void world() {
        CHECK.says(11, "A WORLD by a TEXT (anew): n.");
        TiedRow x = new TiedRow();
        Check.write(x, 0, " n4 AB3BC9  CB2DA1CD5DC0 A<BB+C C@3D^9A!D B?DA ");
        CHECK.due("world", x.world(0), 4);
        CHECK.due("things", x.count(0), 4);
        CHECK.due("ties", x.count(1), 3);
        CHECK.due("rules", x.count(2), 6);
        dueTie(x, 0, 1, 3);
        dueTie(x, 1, 2, 2);
        dueTie(x, 0, 3, 1);
        dueTie(x, 2, 3, 0);
        dueTie(x, 0, 2, 0);
        int[][] want = {{1, 0, 1, 0, 0}, {2, 1, 2, 0, 0}, {3, 2, 3, 0, 0}, {4, 3, 9, 0, 0}, {5, 0, 3, 0, 0}, {6, 1, 3, 0, 0}};
        for (int k = 0; k < 6; k++) {
            dueRule(x, k, want[k]);
        }
        for (int n = 1; n <= 10; n++) {
            Check.write(x, 3, "n" + n);
            CHECK.due("world of " + n, x.world(3), n);
            CHECK.due("things of " + n, x.count(0), n);
        }
    }

    private static void worldAnew() {
        CHECK.says(11, "(anew)");
        TiedRow x = Check.rich(EIGHT_RULES);
        x.off(7, 1);
        x.off(0, 1);
        x.at(4, 59);
        Check.write(x, 2, "n2B<A");
        CHECK.due("world anew", x.world(2), 2);
        int[] counts = {2, 0, 1, 1, 0, 5, 4};
        for (int what = 0; what <= 6; what++) {
            CHECK.due("count(" + what + ")", x.count(what), counts[what]);
        }
        dueRule(x, 0, 1, 1, 0, 0, 0);
        x.at(4, 59);
        CHECK.due("a row stays", x.asked(), Check.RICH_ASKED);
        // Ties of things that are no more leave nothing behind, nor are they there again.
        Check.write(x, 2, "n10AJ8IJ8");
        x.world(2);
        Check.write(x, 2, "n3");
        x.world(2);
        Check.layOrder(x, 0, "ABC");
        CHECK.due("no tie of an earlier one", x.count(1), 0);
        for (int m = 0; m < 5; m++) {
            CHECK.due("measure " + m, x.measure(m, 0), 0);
            CHECK.due("bound " + m, x.bound(m), 0);
            CHECK.due("least " + m, x.least(m), 0);
        }
        Check.write(x, 2, "n10");
        x.world(2);
        CHECK.due("nor there again", x.tie(8, 9, NONE), 0);
        CHECK.due("no tie at all", x.count(1), 0);
        CHECK.due("no tie in an order", x.least(0), 0);
        x.tie(0, 1, 5);
        x.rule(0, 0, 0, 0);
        x.world(2);
        CHECK.due("the same text again: no tie", x.count(1), 0);
        CHECK.due("the same text again: no rule", x.count(2), 0);
        TiedRow told = Check.rich("n3 AB2 BC1 A<B");
        CHECK.answers("nothing else is told anew", told, 3, () -> told.world(3));
    }

    private static void worldRefused() {
        TiedRow x = Check.rich("n3 AB2 BC1 A<B");
        CHECK.says(11, "BAD; NOTHING;");
        for (int t : NO_TEXTS) {
            CHECK.refuses("world(" + t + ")", x, BAD, () -> x.world(t));
        }
        CHECK.finds("world of a missing one", x, NOTHING, () -> x.world(2));
        CHECK.says(11, "STATE: a FAULT.");
        CHECK.refuses("world of a fault", x, TiedRow.STATE, () -> x.world(0));
        CHECK.refuses("world of blanks and a sign", x, TiedRow.STATE, () -> x.world(1));
        x.text(2, 0);
        CHECK.refuses("world of an empty text", x, TiedRow.STATE, () -> x.world(2));
        Check.write(x, 2, "n4CD7A<BA=");
        CHECK.refuses("world of a fault at the end", x, TiedRow.STATE, () -> x.world(2));
        dueTie(x, 0, 1, 2);
        CHECK.says(11, "(STATE behind NOTHING.)");
        TiedRow none = new TiedRow();
        for (int t = 0; t < 4; t++) {
            int text = t;
            CHECK.finds("world of none", none, NOTHING, () -> none.world(text));
        }
    }

    // ---- 12 tie

    private static void tie() {
        CHECK.says(12, "The TIE of two THINGS is w (NONE: it stays): what it was.");
        TiedRow x = Check.worldOf("n10 IJ4");
        int was = 4;
        for (int w : new int[] {9, 0, 1, 1, 8, 0, 0, 9}) {
            CHECK.due("tie(9, 8, " + w + ")", x.tie(9, 8, w), was);
            dueTie(x, 8, 9, w);
            CHECK.due("ties there are", x.count(1), w == 0 ? 0 : 1);
            was = w;
        }
        CHECK.due("the first two", x.tie(0, 1, 3), 0);
        dueTie(x, 0, 1, 3);
        dueTie(x, 8, 9, 9);
        for (int a = 0; a < 10; a++) {
            for (int b = a + 1; b < 10; b++) {
                x.tie(a, b, 9);
            }
        }
        CHECK.due("as many as may be", x.count(1), 45);
    }

    private static void tieRefused() {
        CHECK.says(12, "BAD.");
        TiedRow x = Check.rich("n3 AB2 BC1 A<B");
        for (int a : Check.outside(0, 2)) {
            CHECK.refuses("tie(" + a + ", 0)", x, BAD, () -> x.tie(a, 0, 1));
            CHECK.refuses("tie(0, " + a + ")", x, BAD, () -> x.tie(0, a, 1));
            CHECK.refuses("tie(0, " + a + ", NONE)", x, BAD, () -> x.tie(0, a, NONE));
        }
        for (int a = 0; a < 3; a++) {
            int thing = a;
            CHECK.refuses("tie of alike ones", x, BAD, () -> x.tie(thing, thing, 1));
            CHECK.refuses("tie of alike ones stays", x, BAD, () -> x.tie(thing, thing, NONE));
        }
        for (int w : new int[] {10, -1, -8, -10, HIGH, LOW}) {
            CHECK.refuses("tie to be " + w, x, BAD, () -> x.tie(0, 1, w));
        }
        TiedRow ten = Check.rich("n10 AB2");
        CHECK.refuses("an eleventh thing", ten, BAD, () -> ten.tie(0, 10, 1));
        TiedRow one = Check.rich("n1");
        CHECK.refuses("one thing alone", one, BAD, () -> one.tie(0, 1, 1));
        TiedRow none = new TiedRow();
        CHECK.refuses("without things", none, BAD, () -> none.tie(0, 1, 1));
    }

    // ---- 13 rule

    private static void rule() {
        CHECK.says(13, "A RULE of a KIND (0 .. 6): its number.");
        TiedRow x = Check.worldOf("n3");
        for (int kind = 0; kind <= 6; kind++) {
            CHECK.due("kind " + kind, x.rule(kind, 0, 1, 2), kind);
        }
        CHECK.due("the eighth", x.rule(6, 2, 1, 0), 7);
        CHECK.due("eight", x.count(2), 8);
        dueRule(x, 7, 6, 2, 1, 0, 0);
        for (int kind : Check.outside(0, 6)) {
            TiedRow y = Check.rich("n3 AB2 BC1 A<B");
            CHECK.refuses("kind " + kind, y, BAD, () -> y.rule(kind, 0, 1, 2));
        }
    }

    private static void ruleNumbers() {
        CHECK.says(13, "a x; b y (p: PLACED, EARLY); c z (BETWEEN; others not looked at; of a note none).");
        TiedRow x = Check.worldOf("n3");
        CHECK.due("a note", x.rule(0, LOW, HIGH, 77), 0);
        CHECK.due("AHEAD", x.rule(1, 2, 1, 77), 1);
        CHECK.due("RIGHT", x.rule(2, 0, 1, LOW), 2);
        CHECK.due("PLACED", x.rule(3, 2, 9, -1), 3);
        CHECK.due("EARLY", x.rule(4, 1, 0, HIGH), 4);
        CHECK.due("APART", x.rule(5, 2, 0, 2), 5);
        CHECK.due("BETWEEN", x.rule(6, 0, 1, 2), 6);
        int[][] want = {{0, 0, 0, 0, 0}, {1, 2, 1, 0, 0}, {2, 0, 1, 0, 0}, {3, 2, 9, 0, 0}, {4, 1, 0, 0, 0}, {5, 2, 0, 0, 0},
            {6, 0, 1, 2, 0}};
        for (int k = 0; k < want.length; k++) {
            dueRule(x, k, want[k]);
        }
        TiedRow one = Check.worldOf("n1");
        CHECK.due("PLACED of one thing", one.rule(3, 0, 0, 0), 0);
        CHECK.due("PLACED behind all", one.rule(3, 0, 9, 0), 1);
        CHECK.due("EARLY of one thing", one.rule(4, 0, 9, 0), 2);
        TiedRow none = new TiedRow();
        CHECK.due("a note without things", none.rule(0, 0, 0, 0), 0);
    }

    private static void ruleRefused() {
        CHECK.says(13, "BAD;");
        TiedRow x = Check.rich("n3 AB2 BC1 A<B");
        int[][] bad = {{1, 0, 0, 2}, {2, 1, 1, 0}, {5, 2, 2, 0}, {6, 0, 1, 1}, {6, 0, 1, 0}, {6, 0, 0, 1}, {6, 2, 2, 2}};
        for (int[] b : bad) {
            CHECK.refuses("alike ones of kind " + b[0], x, BAD, () -> x.rule(b[0], b[1], b[2], b[3]));
        }
        for (int a : Check.outside(0, 2)) {
            for (int kind = 1; kind <= 6; kind++) {
                int of = kind;
                CHECK.refuses("kind " + kind + " of x " + a, x, BAD, () -> x.rule(of, a, 1, 2));
            }
            for (int kind : new int[] {1, 2, 5, 6}) {
                CHECK.refuses("kind " + kind + " of y " + a, x, BAD, () -> x.rule(kind, 0, a, 2));
            }
            CHECK.refuses("kind 6 of z " + a, x, BAD, () -> x.rule(6, 0, 1, a));
        }
        for (int p : Check.outside(0, 9)) {
            CHECK.refuses("PLACED at " + p, x, BAD, () -> x.rule(3, 0, p, 0));
            CHECK.refuses("EARLY at " + p, x, BAD, () -> x.rule(4, 0, p, 0));
        }
        TiedRow none = new TiedRow();
        for (int kind = 1; kind <= 6; kind++) {
            int of = kind;
            CHECK.refuses("kind " + kind + " without things", none, BAD, () -> none.rule(of, 0, 1, 2));
        }
        TiedRow two = Check.rich("n2 AB1");
        CHECK.refuses("BETWEEN of two things", two, BAD, () -> two.rule(6, 0, 1, 2));
    }

    private static void ruleFull() {
        CHECK.says(13, "FULL.");
        TiedRow x = Check.rich(EIGHT_RULES);
        for (int kind = 0; kind <= 6; kind++) {
            int of = kind;
            CHECK.refuses("a ninth of kind " + kind, x, TiedRow.FULL, () -> x.rule(of, 0, 1, 2));
        }
        for (int kind = 1; kind <= 7; kind++) {
            int of = kind;
            CHECK.refuses("a ninth of kind " + kind + " that is bad", x, BAD, () -> x.rule(of, -1, 1, 2));
        }
        x.off(7, 1);
        CHECK.refuses("a ninth, one being off", x, TiedRow.FULL, () -> x.rule(0, 0, 0, 0));
        CHECK.due("one goes", x.back(7), 1);
        CHECK.due("there is room again", x.rule(0, 0, 0, 0), 7);
    }

    // ---- 14 off

    private static void off() {
        CHECK.says(14, "A RULE is OFF (1) or not (0): what it was.");
        TiedRow x = Check.worldOf(EIGHT_RULES);
        for (int k = 0; k < 8; k++) {
            int was = 0;
            for (int is : new int[] {0, 1, 1, 0, 0, 1}) {
                CHECK.due("off(" + k + ", " + is + ")", x.off(k, is), was);
                CHECK.due("told", x.told(k, 4), 1);
                CHECK.due("whether off", x.asked(), is);
                CHECK.due("so many are off", x.count(4), k + is);
                was = is;
            }
        }
    }

    private static void offRefused() {
        CHECK.says(14, "BAD.");
        TiedRow x = Check.rich(EIGHT_RULES);
        for (int k : Check.outside(0, 7)) {
            CHECK.refuses("off(" + k + ", 1)", x, BAD, () -> x.off(k, 1));
        }
        for (int is : Check.outside(0, 1)) {
            CHECK.refuses("off(0, " + is + ")", x, BAD, () -> x.off(0, is));
            CHECK.refuses("off(7, " + is + ")", x, BAD, () -> x.off(7, is));
        }
        x.back(1);
        CHECK.refuses("one that went", x, BAD, () -> x.off(1, 1));
        x.back(0);
        CHECK.refuses("no rule", x, BAD, () -> x.off(0, 1));
    }

    // ---- 15 back

    private static void back() {
        CHECK.says(15, "RULES from number n on (n 0 to how many there are: then 0) go: how many went.");
        for (int n = 0; n <= 8; n++) {
            TiedRow x = Check.worldOf(EIGHT_RULES);
            for (int k = 0; k < 8; k++) {
                x.off(k, 1);
            }
            CHECK.due("back(" + n + ")", x.back(n), 8 - n);
            CHECK.due("rules there are", x.count(2), n);
            CHECK.due("those that are off", x.count(4), n);
            CHECK.due("back again", x.back(n), 0);
        }
        TiedRow x = Check.worldOf(EIGHT_RULES);
        x.off(1, 1);
        x.off(2, 1);
        x.back(1);
        dueRule(x, 0, 1, 0, 1, 0, 0);
        CHECK.due("a rule anew", x.rule(5, 1, 2, 0), 1);
        dueRule(x, 1, 5, 1, 2, 0, 0);
        CHECK.due("it is not off", x.count(4), 0);
        CHECK.due("back to none", x.back(0), 2);
        CHECK.due("all orders", x.all(), 6);
        CHECK.due("the tie stays", x.count(1), 1);
        CHECK.due("back without rules", new TiedRow().back(0), 0);
    }

    private static void backRefused() {
        CHECK.says(15, "BAD.");
        TiedRow x = Check.rich(EIGHT_RULES);
        for (int n : Check.outside(0, 8)) {
            CHECK.refuses("back(" + n + ")", x, BAD, () -> x.back(n));
        }
        x.back(3);
        CHECK.refuses("back(4) of three", x, BAD, () -> x.back(4));
        TiedRow none = new TiedRow();
        CHECK.refuses("back(1) of none", none, BAD, () -> none.back(1));
    }

    // ---- 16 told

    private static void told() {
        CHECK.says(16, "Of a RULE: 0 its KIND, 1 a, 2 b, 3 c (0: not looked at), 4 whether OFF, all told by asked(): 1.");
        TiedRow x = Check.worldOf("n10");
        x.rule(6, 9, 8, 7);
        x.rule(4, 9, 9, 9);
        x.rule(0, 9, 9, 9);
        x.rule(5, 8, 9, 7);
        dueRule(x, 0, 6, 9, 8, 7, 0);
        dueRule(x, 1, 4, 9, 9, 0, 0);
        dueRule(x, 2, 0, 0, 0, 0, 0);
        dueRule(x, 3, 5, 8, 9, 0, 0);
        x.off(0, 1);
        x.off(2, 1);
        dueRule(x, 0, 6, 9, 8, 7, 1);
        dueRule(x, 2, 0, 0, 0, 0, 1);
        dueRule(x, 3, 5, 8, 9, 0, 0);
    }

    private static void toldRefused() {
        CHECK.says(16, "BAD.");
        TiedRow x = Check.rich(EIGHT_RULES);
        for (int k : Check.outside(0, 7)) {
            CHECK.refuses("told(" + k + ", 0)", x, BAD, () -> x.told(k, 0));
        }
        for (int what : Check.outside(0, 4)) {
            CHECK.refuses("told(0, " + what + ")", x, BAD, () -> x.told(0, what));
            CHECK.refuses("told(7, " + what + ")", x, BAD, () -> x.told(7, what));
        }
        TiedRow none = new TiedRow();
        CHECK.refuses("told without rules", none, BAD, () -> none.told(0, 0));
    }

    // ---- 17 mark

    private static void mark() {
        CHECK.says(17, "What a RULE that IS of a KIND tells: an AHEAD one (RIGHT, too) x, a RIGHT one y, a PLACED one p, "
            + "an EARLY one how many THINGS may be ahead of it at most (p, or n less 1, if that is less), "
            + "an APART one the lesser of x and y (BETWEEN: of y and z), a BETWEEN one x.");
        TiedRow x = Check.worldOf("n4 C<A D+B B@9 C!D D!B B?DC A@0");
        int[][] want = {{0, 1, 2}, {1, 1, 3}, {1, 2, 1}, {2, 3, 9}, {3, 5, 2}, {4, 5, 1}, {5, 5, 2}, {5, 6, 1}, {6, 3, 0}};
        for (int round = 0; round < 2; round++) {
            for (int[] w : want) {
                CHECK.answers("mark(" + w[0] + ", " + w[1] + ")", x, w[2], () -> x.mark(w[0], w[1]));
            }
            // Being off, a rule is of its kind still.
            for (int k = 0; k < 7; k++) {
                x.off(k, 1);
            }
        }
        CHECK.due("BETWEEN, z the lesser", Check.worldOf("n3 A?CB").mark(0, 5), 1);
        CHECK.due("BETWEEN, y the lesser", Check.worldOf("n3 A?BC").mark(0, 5), 1);
        CHECK.due("BETWEEN, x the least", Check.worldOf("n3 A?BC").mark(0, 6), 0);
        for (int n = 1; n <= 10; n++) {
            TiedRow early = Check.worldOf("n" + n);
            for (int p = 0; p <= 9; p++) {
                early.back(0);
                early.rule(4, n - 1, p, 0);
                CHECK.due("EARLY " + p + " of " + n, early.mark(0, 4), p > n - 1 ? n - 1 : p);
            }
        }
    }

    private static void markRefused() {
        TiedRow x = Check.rich("n4 AB1 C<A D+B B@3 C^2 D!B A?DC");
        x.rule(0, 0, 0, 0);
        CHECK.says(17, "BAD: also KIND 0;");
        for (int k : Check.outside(0, 6)) {
            CHECK.refuses("mark(" + k + ", 1)", x, BAD, () -> x.mark(k, 1));
            CHECK.refuses("mark(" + k + ", 0)", x, BAD, () -> x.mark(k, 0));
        }
        for (int kind : new int[] {0, -1, 7, LOW, HIGH}) {
            for (int k = 0; k < 7; k++) {
                int rule = k;
                CHECK.refuses("mark(" + k + ", " + kind + ")", x, BAD, () -> x.mark(rule, kind));
            }
        }
        CHECK.says(17, "UNLIKE.");
        // By rules 0 to 6, of kinds 1 2 3 4 5 6 0: the kinds that they are of.
        String[] of = {"1", "12", "3", "4", "5", "56", ""};
        for (int k = 0; k < 7; k++) {
            for (int kind = 1; kind <= 6; kind++) {
                int rule = k;
                int other = kind;
                if (of[k].indexOf('0' + kind) < 0) {
                    CHECK.finds("mark(" + k + ", " + kind + ")", x, UNLIKE, () -> x.mark(rule, other));
                } else {
                    CHECK.holds("mark(" + k + ", " + kind + ") tells", x.mark(k, kind) >= 0);
                }
            }
        }
    }
}
