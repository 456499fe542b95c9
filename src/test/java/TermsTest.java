import java.util.ArrayList;
import java.util.List;
import java.util.function.IntSupplier;

/** The document's terms, but for worlds in texts (FaultTest), measures and bounds (MeasuresTest), swaps (LotsTest). */
public final class TermsTest {
    private static final int LOW = Check.LOW, HIGH = Check.HIGH;
    private static final int BAD = TiedRow.BAD, SPENT = TiedRow.SPENT, NONE = TiedRow.NONE, FINDING = TiedRow.FINDING;
    private static final int NOTHING = Check.NOTHING, BEYOND = Check.BEYOND, UNLIKE = Check.UNLIKE, NOUGHT = Check.NOUGHT,
        SIZE = Check.SIZE;
    private static final String NINE = "n9 AB2 BC1 A<B", NINE_NONE = "n9 AB2 BC1 A<B B<A";
    private static final Check CHECK = new Check("TermsTest");

    public static void main(String[] args) {
        calls512();
        refusalsInOrder();
        refusalsOtherwise();
        none();
        refusedChangesNothing();
        findings();
        fractions();
        bits();
        rowsAndTexts();
        things();
        weights();
        orders();
        kinds();
        off();
        allowed();
        spent();
        CHECK.end();
    }

    private static void calls512() {
        CHECK.says(0, "An object is used for at most 512 calls after it has been made; what later calls answer is free.");
        TiedRow x = new TiedRow();
        int calls = 0;
        String signs = "n4 AB1 BC1 CD1";
        CHECK.due("text", x.text(0, signs.length()), signs.length());
        for (int i = 0; i < signs.length(); i++) {
            CHECK.due("put", x.put(0, i, signs.charAt(i)), 1032);
        }
        CHECK.due("world", x.world(0), 4);
        calls += 2 + signs.length();
        int[] least = {3, 1, 1, 3, 1};
        for (; calls + 3 <= 512; calls += 3) {
            int m = calls % 5;
            CHECK.due("least(" + m + ") by " + calls + " calls", x.least(m), least[m]);
            CHECK.due("first(" + m + ")", x.first(m, 0), least[m]);
            CHECK.due("must()", x.must(), 0);
        }
        for (; calls < 512; calls++) {
            CHECK.due("the last calls", x.all(), 24);
        }
    }

    // ---- refusals

    private static void refusalsInOrder() {
        CHECK.says(0, "Refused is, the first of these that fits, in this order: BAD -1 (a number that is none, or not as told), "
            + "FULL -2, STATE -4 (not now), SPENT -6 (more than told), FINDING -3 (finding() tells which),");
        CHECK.due("BAD", TiedRow.BAD, -1);
        CHECK.due("FULL", TiedRow.FULL, -2);
        CHECK.due("STATE", TiedRow.STATE, -4);
        CHECK.due("SPENT", TiedRow.SPENT, -6);
        CHECK.due("FINDING", TiedRow.FINDING, -3);
        TiedRow full = Check.rich("n3 AB1 A<BA<BA<BA<BA<BA<BA<BA<B");
        CHECK.refuses("BAD ahead of FULL", full, BAD, () -> full.rule(1, 0, 0, 0));
        CHECK.refuses("FULL", full, TiedRow.FULL, () -> full.rule(1, 0, 1, 0));
        TiedRow x = Check.rich(NINE_NONE);
        CHECK.refuses("BAD ahead of STATE", x, BAD, () -> x.world(4));
        CHECK.refuses("STATE", x, TiedRow.STATE, () -> x.world(0));
        CHECK.refuses("BAD ahead of SPENT", x, BAD, () -> x.first(4, 6));
        CHECK.refuses("BAD ahead of SPENT", x, BAD, () -> x.costs(4, 0, 0));
        CHECK.refuses("BAD ahead of SPENT", x, BAD, () -> x.bars(4, 2));
        CHECK.refuses("BAD ahead of SPENT", x, BAD, () -> x.both(4, 5));
        CHECK.refuses("BAD ahead of SPENT", x, BAD, () -> x.both(5, 4));
        CHECK.refuses("SPENT ahead of NOUGHT", x, SPENT, () -> x.least(4));
        CHECK.refuses("SPENT of the second ahead of NOUGHT", x, SPENT, () -> x.both(0, 4));
        CHECK.finds("NOUGHT", x, NOUGHT, () -> x.least(3));
        CHECK.refuses("BAD ahead of NOTHING", x, BAD, () -> x.measure(5, 5));
        CHECK.refuses("BAD ahead of SIZE", x, BAD, () -> x.measure(5, 2));
        CHECK.refuses("BAD ahead of UNLIKE", x, BAD, () -> x.measure(5, 3));
        CHECK.refuses("BAD ahead of BEYOND", x, BAD, () -> x.gap(0, 9));
        CHECK.refuses("BAD ahead of NOUGHT", x, BAD, () -> x.least(5));
        CHECK.refuses("BAD ahead of SIZE of a row to be", x, BAD, () -> x.row(6, -1));
        CHECK.refuses("BAD ahead of UNLIKE of a rule", x, BAD, () -> x.mark(0, 0));
    }

    private static void refusalsOtherwise() {
        CHECK.says(0, "unless a call says so otherwise.");
        TiedRow x = Check.rich(NINE_NONE);
        CHECK.finds("world: NOTHING ahead of STATE", x, NOTHING, () -> x.world(2));
        CHECK.finds("rank: NOTHING ahead of SPENT", x, NOTHING, () -> x.rank(4, 5));
        CHECK.finds("rank: SIZE ahead of SPENT", x, SIZE, () -> x.rank(4, 2));
        CHECK.finds("rank: UNLIKE ahead of SPENT", x, UNLIKE, () -> x.rank(4, 3));
        CHECK.refuses("rank: SPENT ahead of NOUGHT", x, SPENT, () -> x.rank(4, 0));
        CHECK.finds("copy: SIZE ahead of NOTHING", x, SIZE, () -> x.copy(5, 0, 5, 0, -1));
    }

    private static void none() {
        CHECK.says(0, "NONE -9.");
        CHECK.due("NONE", TiedRow.NONE, -9);
        TiedRow x = Check.rich("n3 AB2 A@0");
        CHECK.answers("no fault", x, -9, () -> x.fault(3));
        CHECK.answers("breaks none", x, -9, () -> x.breaks(0));
        CHECK.answers("a least one it is not", x, -9, () -> x.rank(0, 1));
        CHECK.answers("can't be there", x, -9, () -> x.where(0, 0, 1));
        CHECK.answers("a tie that stays", x, 2, () -> x.tie(0, 1, -9));
    }

    /** A refused call of each kind, on an object in which nothing is as it was at first. */
    private static List<IntSupplier> refused(TiedRow x) {
        List<IntSupplier> out = new ArrayList<>();
        out.add(() -> x.row(4, 61));
        out.add(() -> x.row(4, -1));
        out.add(() -> x.lay(4, 60, 5));
        out.add(() -> x.lay(5, 0, 5));
        out.add(() -> x.at(4, -1));
        out.add(() -> x.tear(5));
        out.add(() -> x.copy(4, 58, 0, 0, 3));
        out.add(() -> x.mean(5));
        out.add(() -> x.text(1, 121));
        out.add(() -> x.text(1, -1));
        out.add(() -> x.put(1, 120, 65));
        out.add(() -> x.fault(2));
        out.add(() -> x.world(0));
        out.add(() -> x.tie(0, 1, 10));
        out.add(() -> x.rule(1, 0, 9, 0));
        out.add(() -> x.off(0, 2));
        out.add(() -> x.back(3));
        out.add(() -> x.told(0, 5));
        out.add(() -> x.mark(0, 6));
        out.add(() -> x.measure(0, 2));
        out.add(() -> x.breaks(3));
        out.add(() -> x.gap(0, 9));
        out.add(() -> x.least(4));
        out.add(() -> x.first(4, 0));
        out.add(() -> x.ways(4));
        out.add(() -> x.rank(4, 0));
        out.add(() -> x.order(4, 0, 0));
        out.add(() -> x.order(0, HIGH, 0));
        out.add(() -> x.bound(5));
        out.add(() -> x.costs(4, 0, 1));
        out.add(() -> x.bars(4, 0));
        out.add(() -> x.where(4, 0, 0));
        out.add(() -> x.where(0, 0, 9));
        out.add(() -> x.places(4, 0));
        out.add(() -> x.middle(4, 0));
        out.add(() -> x.leads(4, 0, 1));
        out.add(() -> x.both(0, 4));
        out.add(() -> x.swaps(0, 1));
        out.add(() -> x.moves(0, 1));
        out.add(() -> x.apart(0, 3));
        out.add(() -> x.draw(0, 0));
        out.add(() -> x.lots(0, 201, 1));
        out.add(() -> x.image(6));
        out.add(() -> x.on(4));
        out.add(() -> x.count(7));
        out.add(() -> x.findings(6));
        return out;
    }

    private static void refusedChangesNothing() {
        CHECK.says(0, "What is refused changes nothing but finding(), findings().");
        int calls = refused(new TiedRow()).size();
        for (int i = 0; i < calls; i++) {
            TiedRow x = Check.rich(NINE);
            TiedRow same = Check.rich(NINE);
            IntSupplier call = refused(x).get(i);
            int finding = x.finding();
            int[] counts = new int[6];
            for (int f = 1; f <= 5; f++) {
                counts[f] = x.findings(f);
            }
            int answer = call.getAsInt();
            String what = "call " + i;
            CHECK.holds(what + " is refused", answer < 0 && answer != NONE);
            int sum = 0;
            for (int f = 1; f <= 5; f++) {
                sum += x.findings(f) - counts[f];
                int more = answer == FINDING && f == x.finding() ? 1 : 0;
                CHECK.due(what + " findings(" + f + ")", x.findings(f), counts[f] + more);
            }
            CHECK.due(what + " is one finding, or none", sum, answer == FINDING ? 1 : 0);
            CHECK.holds(what + " finding()", answer == FINDING || x.finding() == finding);
            CHECK.due(what + " asked()", x.asked(), Check.RICH_ASKED);
            CHECK.due(what + " upper()", x.upper(), 10);
            CHECK.due(what + " lower()", x.lower(), 1);
            CHECK.due(what + " digest()", x.digest(), same.digest());
            for (int m = 0; m < 4; m++) {
                CHECK.due(what + " least(" + m + ")", x.least(m), same.least(m));
                CHECK.due(what + " ways(" + m + ")", x.ways(m), same.ways(m));
            }
        }
    }

    private static void findings() {
        TiedRow x = Check.rich("n3 AB2 BC1 A<B B<A");
        CHECK.says(0, "FINDINGS: 1 NOTHING (a ROW, a TEXT that is missing),");
        CHECK.finds("a row", x, 1, () -> x.at(5, 0));
        CHECK.finds("a text", x, 1, () -> x.put(2, 0, 65));
        CHECK.says(0, "2 BEYOND (a place that there is not),");
        CHECK.finds("of a row", x, 2, () -> x.at(0, 3));
        CHECK.finds("of a text", x, 2, () -> x.put(1, 120, 65));
        CHECK.finds("of gaps", x, 2, () -> x.gap(0, 2));
        TiedRow y = Check.rich("n3 AB2 BC1");
        CHECK.finds("of least orders", y, 2, () -> y.order(0, 2, 0));
        CHECK.says(0, "3 UNLIKE (a RULE of another KIND; a ROW that is no ORDER; a number that is none),");
        CHECK.finds("a rule", x, 3, () -> x.mark(0, 3));
        CHECK.finds("a row", x, 3, () -> x.measure(0, 3));
        Check.layRow(x, 0, 0, 10, 0, 0);
        CHECK.finds("a number", x, 3, () -> x.on(0));
        CHECK.says(0, "4 NOUGHT (shared among none; no ORDER is ALLOWED),");
        x.row(0, 0);
        CHECK.finds("shared among none", x, 4, () -> x.mean(0));
        CHECK.finds("no order", x, 4, () -> x.least(0));
        TiedRow none = new TiedRow();
        CHECK.finds("shared among no orders", none, 4, none::average);
        CHECK.says(0, "5 SIZE (fewer than none; not as many as due).");
        CHECK.finds("fewer than none", x, 5, () -> x.row(0, -1));
        CHECK.finds("fewer bytes than none", x, 5, () -> x.text(0, -1));
        CHECK.finds("too many for an order", x, 5, () -> x.measure(0, 2));
        CHECK.finds("too few for an order", x, 5, () -> x.measure(0, 0));
        CHECK.finds("too many for an image", x, 5, () -> x.on(4));
    }

    // ---- what is told

    private static long commonOf(long a, long b) {
        return b == 0 ? a : commonOf(b, a % b);
    }

    private static void fractions() {
        CHECK.says(0, "Fractions are told by upper(), lower(), in lowest terms, the lower number above 0 (0 by 1).");
        for (int n = 1; n <= 10; n++) {
            TiedRow x = Check.worldOf("n" + n);
            x.average();
            CHECK.due("0", x.upper(), 0);
            CHECK.due("by 1", x.lower(), 1);
            for (int a = 1; a < n; a++) {
                x.tie(0, a, a % 9 + 1);
                x.average();
                CHECK.holds("lower above 0", x.lower() > 0);
                CHECK.due("lowest terms of average()", commonOf(x.upper(), x.lower()), 1);
                x.middle(0, a);
                CHECK.holds("lower above 0", x.lower() > 0);
                CHECK.due("lowest terms of middle()", commonOf(x.upper(), x.lower()), 1);
            }
        }
        TiedRow x = Check.worldOf("n10 A@0");
        x.middle(0, 0);
        CHECK.due("place 0", x.upper(), 0);
        CHECK.due("by 1", x.lower(), 1);
        x.middle(0, 9);
        CHECK.due("place 5", x.upper(), 5);
        CHECK.due("by 1", x.lower(), 1);
    }

    private static void bits() {
        CHECK.says(0, "Sets are told by bits.");
        TiedRow x = Check.worldOf("n10 A@9");
        CHECK.due("place 9 alone", x.places(0, 0), 512);
        CHECK.due("places 0 to 8", x.places(0, 1), 511);
        x.back(0);
        CHECK.due("places 0 to 9", x.places(0, 1), 1023);
        for (int k = 0; k < 7; k++) {
            x.rule(0, 0, 0, 0);
        }
        x.rule(1, 0, 1, 0);
        x.off(7, 1);
        x.image(0);
        x.at(0, 45);
        CHECK.due("rule 7 off", x.asked(), 128);
        x.off(0, 1);
        x.image(0);
        x.at(0, 45);
        CHECK.due("rules 0 and 7 off", x.asked(), 129);
        TiedRow all = Check.worldOf("n1 A@1A@2A@3A@4A@5A@6A@7A@8");
        all.must();
        CHECK.due("all eight rules", all.asked(), 255);
    }

    // ---- rows, texts, things, ties

    private static void rowsAndTexts() {
        CHECK.says(0, "1 ROWS 0 .. 5 are rows of 0 to 60 ints, TEXTS 0 .. 3 rows of 0 to 120 bytes, or missing (at first).");
        TiedRow x = new TiedRow();
        for (int r = 0; r <= 5; r++) {
            int row = r;
            CHECK.finds("row " + r + " is missing at first", x, NOTHING, () -> x.mean(row));
            CHECK.due("none", x.row(r, 0), 0);
            CHECK.due("sixty", x.row(r, 60), 60);
            CHECK.due("the last one", x.lay(r, 59, HIGH), 1);
            CHECK.due("an int", x.lay(r, 59, LOW), 1);
            CHECK.due("an int", x.asked(), HIGH);
            CHECK.refuses("61", x, BAD, () -> x.row(row, 61));
        }
        for (int t = 0; t <= 3; t++) {
            int text = t;
            CHECK.finds("text " + t + " is missing at first", x, NOTHING, () -> x.fault(text));
            CHECK.due("none", x.text(t, 0), 0);
            CHECK.due("120", x.text(t, 120), 120);
            CHECK.due("the last one", x.put(t, 119, 127), 1032);
            CHECK.due("a byte", x.put(t, 119, -128), 1127);
            CHECK.due("a byte", x.put(t, 119, 0), 872);
            CHECK.refuses("121", x, BAD, () -> x.text(text, 121));
        }
        CHECK.due("all rows", x.count(5), 6);
        CHECK.due("all texts", x.count(6), 4);
    }

    private static void things() {
        CHECK.says(0, "THINGS are 0 .. n less 1 (n 0 at first, 10 at most); in TEXTS they are A (65), B, ...");
        CHECK.due("n at first", new TiedRow().count(0), 0);
        for (int n = 1; n <= 10; n++) {
            TiedRow x = Check.rich("n" + n);
            CHECK.due("n", x.count(0), n);
            CHECK.holds("the last thing", x.places(0, n - 1) > 0);
            CHECK.holds("where", x.where(0, n - 1, n - 1) == 0);
            for (int none : Check.outside(0, n - 1)) {
                CHECK.refuses("places of " + none, x, BAD, () -> x.places(0, none));
                CHECK.refuses("middle of " + none, x, BAD, () -> x.middle(0, none));
                CHECK.refuses("where is " + none, x, BAD, () -> x.where(0, none, 0));
                CHECK.refuses("PLACED " + none, x, BAD, () -> x.rule(3, none, 0, 0));
                CHECK.refuses("tie of " + none, x, BAD, () -> x.tie(0, none, 1));
                CHECK.refuses("leads " + none, x, BAD, () -> x.leads(0, 0, none));
                CHECK.refuses("costs " + none, x, BAD, () -> x.costs(0, 0, none));
            }
            Check.write(x, 0, "n" + n + " " + (char) (64 + n) + "@0");
            CHECK.due("the last letter", x.world(0), n);
            CHECK.due("is the last thing", x.told(0, 1), 1);
            CHECK.due("is the last thing", x.asked(), n - 1);
        }
        TiedRow x = Check.rich("n10");
        Check.write(x, 0, "n11");
        CHECK.refuses("eleven", x, TiedRow.STATE, () -> x.world(0));
    }

    private static void weights() {
        CHECK.says(0, "A TIE of two unlike THINGS has a WEIGHT 0 .. 9 (0: there is none).");
        TiedRow x = Check.worldOf("n2");
        x.row(0, 2);
        x.lay(0, 1, 1);
        for (int w = 0; w <= 9; w++) {
            x.tie(0, 1, w);
            int there = w == 0 ? 0 : 1;
            int[] want = {w, w, there, there, there};
            CHECK.due("ties", x.count(1), there);
            for (int m = 0; m < 5; m++) {
                CHECK.due("measure " + m + " by weight " + w, x.measure(m, 0), want[m]);
                CHECK.due("least " + m + " by weight " + w, x.least(m), want[m]);
                CHECK.due("costs " + m + " by weight " + w, x.costs(m, 0, 1), want[m]);
            }
        }
        CHECK.refuses("10", x, BAD, () -> x.tie(0, 1, 10));
        CHECK.refuses("-1", x, BAD, () -> x.tie(0, 1, -1));
        CHECK.refuses("alike things", x, BAD, () -> x.tie(1, 1, 1));
    }

    // ---- orders and rules

    private static void orders() {
        CHECK.says(0, "An ORDER is a ROW of all THINGS, each once, by places 0 .. n less 1.");
        for (int n = 0; n <= 10; n++) {
            TiedRow x = Check.rich(n == 0 ? "" : "n" + n);
            CHECK.answers("rising", x, NONE, () -> x.breaks(0));
            CHECK.answers("falling", x, NONE, () -> x.breaks(1));
            CHECK.finds("one more", x, SIZE, () -> x.breaks(2));
            if (n == 0) {
                continue;
            }
            CHECK.finds("numbers that are none", x, UNLIKE, () -> x.breaks(3));
            x.row(2, n - 1);
            CHECK.finds("one less", x, SIZE, () -> x.breaks(2));
            int last = n - 1;
            // Numbers whose lowest five bits are those of the last thing are not that thing.
            for (int wrong : new int[] {n, -1, last + 32, last - 32, last + 64, LOW + last, HIGH, LOW}) {
                x.lay(0, last, wrong);
                CHECK.finds("with " + wrong, x, UNLIKE, () -> x.breaks(0));
            }
            if (n > 1) {
                x.lay(0, last, 0);
                CHECK.finds("one twice", x, UNLIKE, () -> x.breaks(0));
            }
            x.lay(0, last, last);
            CHECK.answers("rising again", x, NONE, () -> x.breaks(0));
        }
    }

    private static List<String> ordersOf(String letters) {
        List<String> out = new ArrayList<>();
        if (letters.isEmpty()) {
            out.add("");
        }
        for (int i = 0; i < letters.length(); i++) {
            for (String rest : ordersOf(letters.substring(0, i) + letters.substring(i + 1))) {
                out.add(letters.charAt(i) + rest);
            }
        }
        return out;
    }

    private static boolean keeps(int kind, int a, int b, int c, String order) {
        int x = order.indexOf('A' + a);
        int y = order.indexOf('A' + b);
        int z = order.indexOf('A' + c);
        switch (kind) {
            case 0: return true;
            case 1: return x < y;
            case 2: return x == y - 1;
            case 3: return x == b;
            case 4: return x <= b;
            case 5: return x != y - 1 && x != y + 1;
            default: return y < x && x < z || z < x && x < y;
        }
    }

    /** A rule by each order of four things: what breaks() says, and by all() what the search says. */
    private static void keptByAll(int kind, int a, int b, int c) {
        TiedRow x = Check.worldOf("n4");
        String what = "rule(" + kind + ", " + a + ", " + b + ", " + c + ")";
        CHECK.due(what, x.rule(kind, a, b, c), 0);
        int kept = 0;
        for (String order : ordersOf("ABCD")) {
            Check.layOrder(x, 0, order);
            boolean keeps = keeps(kind, a, b, c, order);
            kept += keeps ? 1 : 0;
            CHECK.due(what + " by " + order, x.breaks(0), keeps ? NONE : 0);
        }
        CHECK.due(what + " by how many", x.all(), kept);
        x.off(0, 1);
        CHECK.due(what + " being off", x.all(), 24);
    }

    private static void pairs(int kind) {
        for (int a = 0; a < 4; a++) {
            for (int b = 0; b < 4; b++) {
                if (a != b) {
                    keptByAll(kind, a, b, 0);
                }
            }
        }
    }

    private static void byPlaces(int kind) {
        for (int a = 0; a < 4; a++) {
            for (int p = 0; p <= 9; p++) {
                keptByAll(kind, a, p, 0);
            }
        }
    }

    private static void kinds() {
        CHECK.says(0, "RULES are of KINDS: 0 RULE (a note),");
        keptByAll(0, 9, 9, 9);
        CHECK.says(0, "1 AHEAD (a RULE: x at a lesser place than y),");
        pairs(1);
        CHECK.says(0, "2 RIGHT (an AHEAD: just one less),");
        pairs(2);
        CHECK.says(0, "3 PLACED (a RULE: x at place p 0 .. 9),");
        byPlaces(3);
        CHECK.says(0, "4 EARLY (a RULE: x at place p or a lesser one),");
        byPlaces(4);
        CHECK.says(0, "5 APART (a RULE: x, y not beside one another),");
        pairs(5);
        CHECK.says(0, "6 BETWEEN (an APART: x has one of y, z ahead of it, the other one behind it).");
        for (String order : ordersOf("ABCD")) {
            keptByAll(6, order.charAt(0) - 'A', order.charAt(1) - 'A', order.charAt(2) - 'A');
        }
    }

    private static void off() {
        CHECK.says(0, "RULES may be OFF: as if they were notes.");
        String[] broken = {"B<A", "A+C", "A@3", "B^0", "A!B", "A?BC"};
        for (String rule : broken) {
            TiedRow x = Check.rich("n4 AB1 " + rule);
            CHECK.answers("rising breaks " + rule, x, 0, () -> x.breaks(0));
            CHECK.finds("no swaps", x, UNLIKE, () -> x.swaps(0, 0));
            int all = x.all();
            CHECK.holds("some break " + rule, all < 24);
            x.off(0, 1);
            CHECK.answers("none is broken", x, NONE, () -> x.breaks(0));
            CHECK.due("all are allowed", x.all(), 24);
            CHECK.due("none must be off", x.must(), 0);
            CHECK.due("swaps", x.swaps(0, 0), 0);
            CHECK.due("lots", x.lots(0, 200, 1), 200);
            CHECK.due("nothing is barred", x.bars(0, 0), 0);
            x.off(0, 0);
            CHECK.due("as before", x.all(), all);
        }
    }

    private static void allowed() {
        CHECK.says(0, "An ORDER is ALLOWED, if it keeps all RULES that are not OFF.");
        TiedRow x = Check.worldOf("n3 A<B B<C A@0 B@1 C@2 A+B B+C B?AC");
        CHECK.due("one of six, by all eight", x.all(), 1);
        for (int k = 0; k < 8; k++) {
            x.off(k, 1);
        }
        CHECK.due("all, none of them counting", x.all(), 6);
        x.off(7, 0);
        CHECK.due("the last one alone", x.all(), 2);
        x.off(2, 0);
        CHECK.due("two of them", x.all(), 1);
        CHECK.due("without rules", Check.worldOf("n3").all(), 6);
        CHECK.due("without things", new TiedRow().all(), 1);
    }

    private static void spentCalls(TiedRow x, int refusal) {
        CHECK.refuses("least", x, refusal, () -> x.least(4));
        CHECK.refuses("first", x, refusal, () -> x.first(4, 0));
        CHECK.refuses("ways", x, refusal, () -> x.ways(4));
        CHECK.refuses("rank", x, refusal, () -> x.rank(4, 0));
        CHECK.refuses("order", x, refusal, () -> x.order(4, 0, 0));
        CHECK.refuses("costs", x, refusal, () -> x.costs(4, 0, 1));
        CHECK.refuses("bars", x, refusal, () -> x.bars(4, 0));
        CHECK.refuses("where", x, refusal, () -> x.where(4, 0, 0));
        CHECK.refuses("places", x, refusal, () -> x.places(4, 0));
        CHECK.refuses("middle", x, refusal, () -> x.middle(4, 0));
        CHECK.refuses("leads", x, refusal, () -> x.leads(4, 0, 1));
        CHECK.refuses("both, the first", x, refusal, () -> x.both(4, 0));
        CHECK.refuses("both, the second", x, refusal, () -> x.both(0, 4));
        CHECK.refuses("both, either", x, refusal, () -> x.both(4, 4));
    }

    private static void spent() {
        CHECK.says(0, "SPENT: of LONG, if n is above 8.");
        for (int n = 9; n <= 10; n++) {
            TiedRow x = Check.rich("n" + n + " AB2 BC1 A<B");
            spentCalls(x, SPENT);
            for (int m = 0; m < 4; m++) {
                CHECK.holds("other measures", x.least(m) >= 1 && x.both(m, m) >= 1);
            }
            // No least is asked for here.
            CHECK.answers("a bound", x, 1, () -> x.bound(4));
            CHECK.answers("a measure", x, 1, () -> x.measure(4, 0));
            CHECK.due("swaps", x.swaps(4, 0), 0);
            CHECK.due("moves", x.moves(4, 0), 0);
            CHECK.holds("lots", x.lots(4, 9, 1) >= 0);
        }
        TiedRow x = Check.worldOf("n8 AB2 BC1 A<B");
        CHECK.due("least of eight", x.least(4), 1);
        CHECK.due("first of eight", x.first(4, 0), 1);
        CHECK.due("ways of eight", x.ways(4), 720);
        CHECK.due("rank of eight", x.rank(4, 0), 0);
        CHECK.due("order of eight", x.order(4, 719, 0), 1);
        CHECK.due("costs of eight", x.costs(4, 0, 1), 0);
        CHECK.due("bars of eight", x.bars(4, 0), 0);
        CHECK.due("where of eight", x.where(4, 0, 0), 1);
        CHECK.due("places of eight", x.places(4, 0), 63);
        CHECK.due("middle of eight", x.middle(4, 0), 720);
        CHECK.due("leads of eight", x.leads(4, 0, 1), 2);
        CHECK.due("both of eight", x.both(4, 0), 3);
        CHECK.due("both of eight", x.both(0, 4), 1);
    }
}
