import java.util.function.IntSupplier;

/** Counts answers that are not the ones that are due, and ends a test by them. */
final class Check {
    static final int LOW = Integer.MIN_VALUE, HIGH = Integer.MAX_VALUE;
    static final int NOTHING = 1, BEYOND = 2, UNLIKE = 3, NOUGHT = 4, SIZE = 5;
    /** What asked() tells of a rich() object: no call tells it by chance. */
    static final int RICH_ASKED = -777;
    private static final int SHOWN_MOST = 50;

    private final String test;
    private int wrong = 0;
    private int looked = 0;
    private String sentence = "";
    private int lookedBefore = 0;

    Check(String test) {
        this.test = test;
    }

    /** What comes next is a test of a sentence that the document says under a promise (0: its terms). */
    void says(int promise, String words) {
        endSentence();
        String of = promise == Document.TERMS ? "Terms" : "Promise " + promise;
        sentence = of + " '" + words + "': ";
        due("the document says it", Document.of(promise).contains(Document.onOneLine(words)) ? 1 : 0, 1);
        lookedBefore = looked;
    }

    /** What comes next is a test of no one sentence. */
    void saysNoMore() {
        endSentence();
        sentence = "";
    }

    private void endSentence() {
        if (!sentence.isEmpty() && looked == lookedBefore) {
            fails("nothing was looked at");
        }
    }

    private void fails(String what) {
        wrong++;
        if (wrong <= SHOWN_MOST) {
            System.out.println(test + ": " + sentence + what);
        }
    }

    void due(String what, long got, long want) {
        looked++;
        if (got != want) {
            fails(what + " answered " + got + ", due is " + want);
        }
    }

    void dueText(String what, String got, String want) {
        looked++;
        if (!got.equals(want)) {
            fails(what + " gave " + got + ", due is " + want);
        }
    }

    void holds(String what, boolean is) {
        due(what, is ? 1 : 0, 1);
    }

    /** The call is refused with this finding, which is counted, and nothing else is changed by it. */
    void finds(String what, TiedRow x, int finding, IntSupplier call) {
        // Another finding ahead of it, so that the new one is seen; neither call changes anything else.
        int other = finding == SIZE ? x.at(0, -1) : x.row(0, -1);
        due(what + ": another finding", other, TiedRow.FINDING);
        Told before = new Told(x);
        due(what, call.getAsInt(), TiedRow.FINDING);
        before.findings[finding]++;
        before.finding = finding;
        stays(what, x, before);
    }

    /** The call is refused so, and nothing is changed by it, findings neither. */
    void refuses(String what, TiedRow x, int refusal, IntSupplier call) {
        Told before = new Told(x);
        due(what, call.getAsInt(), refusal);
        stays(what, x, before);
    }

    /** The call answers so, and changes nothing that is told: what it finds is not kept. */
    void answers(String what, TiedRow x, int answer, IntSupplier call) {
        refuses(what, x, answer, call);
    }

    private void stays(String what, TiedRow x, Told before) {
        Told after = new Told(x);
        due(what + " digest()", after.digest, before.digest);
        due(what + " asked()", after.asked, before.asked);
        due(what + " upper()", after.upper, before.upper);
        due(what + " lower()", after.lower, before.lower);
        due(what + " finding()", after.finding, before.finding);
        for (int f = 1; f <= 5; f++) {
            due(what + " findings(" + f + ")", after.findings[f], before.findings[f]);
        }
    }

    /** All that an object tells of itself. */
    private static final class Told {
        final long digest, upper, lower;
        final int asked;
        final int[] findings = new int[6];
        int finding;

        Told(TiedRow x) {
            digest = x.digest();
            asked = x.asked();
            upper = x.upper();
            lower = x.lower();
            finding = x.finding();
            for (int f = 1; f <= 5; f++) {
                findings[f] = x.findings(f);
            }
        }
    }

    /** Numbers that are none where from .. to are: the next ones on either side, and the farthest. */
    static int[] outside(int from, int to) {
        return new int[] {from - 1, to + 1, LOW, HIGH};
    }

    /** Writes a text: text() and put() are looked at elsewhere. */
    static void write(TiedRow x, int t, String signs) {
        x.text(t, signs.length());
        for (int i = 0; i < signs.length(); i++) {
            x.put(t, i, signs.charAt(i));
        }
    }

    /** A new object with a world; without signs one that has no things. */
    static TiedRow worldOf(String signs) {
        TiedRow x = new TiedRow();
        if (!signs.isEmpty()) {
            write(x, 3, signs);
            x.world(3);
        }
        return x;
    }

    /**
     * An object in which a change would be seen: little is as it was at first. Row 0 is the rising order, row 1 the
     * falling one, row 2 has a place too many, row 3 as many as due but numbers that are none, row 4 sixty ints, row 5
     * is missing; text 0 has a fault at its end, text 1 has 120 bytes, text 2 is missing, text 3 is the world. Without
     * things there are two rules, notes, the second of which is off.
     */
    static TiedRow rich(String signs) {
        TiedRow x = worldOf(signs);
        int n = x.count(0);
        if (n == 0) {
            x.rule(0, 0, 0, 0);
            x.rule(0, 0, 0, 0);
            x.off(1, 1);
        }
        x.average();
        write(x, 0, "n2 AB7 B<");
        x.text(1, 120);
        x.put(1, 119, -128);
        int[] sizes = {n, n, n + 1, n, 60};
        for (int r = 0; r < sizes.length; r++) {
            x.row(r, sizes[r]);
            for (int i = 0; i < sizes[r]; i++) {
                int[] values = {i, n - 1 - i, i, -5 - i, 1000 + i};
                x.lay(r, i, values[r]);
            }
        }
        x.lay(4, 59, RICH_ASKED);
        x.at(4, 59);
        x.at(4, 60);
        return x;
    }

    /** Lays numbers into a row. */
    static void layRow(TiedRow x, int r, int... values) {
        x.row(r, values.length);
        for (int i = 0; i < values.length; i++) {
            x.lay(r, i, values[i]);
        }
    }

    /** Lays an order, as letters, into a row. */
    static void layOrder(TiedRow x, int r, String letters) {
        x.row(r, letters.length());
        for (int i = 0; i < letters.length(); i++) {
            x.lay(r, i, letters.charAt(i) - 'A');
        }
    }

    /** A row as letters. */
    static String letters(TiedRow x, int r) {
        StringBuilder out = new StringBuilder();
        for (int i = 0; x.at(r, i) == 1; i++) {
            out.append((char) ('A' + x.asked()));
        }
        return out.toString();
    }

    /** A row is these numbers, and no more. */
    void shows(String what, TiedRow x, int r, int... want) {
        for (int i = 0; i < want.length; i++) {
            due(what + ": place " + i + " is there", x.at(r, i), 1);
            due(what + ": place " + i, x.asked(), want[i]);
        }
        finds(what + ": its end", x, BEYOND, () -> x.at(r, want.length));
    }

    /** A row is this order, as letters, and no more. */
    void showsOrder(String what, TiedRow x, int r, String want) {
        dueText(what, letters(x, r), want);
    }

    void end() {
        endSentence();
        System.out.println(test + ": " + looked + " answers looked at, " + wrong + " are not as due");
        if (wrong != 0 || looked == 0) {
            System.exit(1);
        }
    }
}
