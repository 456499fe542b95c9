/** Counts answers that are not the ones that are due, and ends a test by them. */
final class Check {
    private int wrong = 0;
    private int looked = 0;
    private final String test;

    Check(String test) {
        this.test = test;
    }

    void due(String what, long got, long want) {
        looked++;
        if (got != want) {
            wrong++;
            if (wrong <= 50) {
                System.out.println(test + ": " + what + " answered " + got + ", due is " + want);
            }
        }
    }

    void holds(String what, boolean is) {
        due(what, is ? 1 : 0, 1);
    }

    /** The call is refused with this finding, which is counted, and nothing else is changed by it. */
    void finds(String what, TiedRow x, int finding, java.util.function.IntSupplier call) {
        long digest = x.digest();
        int asked = x.asked();
        long upper = x.upper();
        long lower = x.lower();
        int before = x.findings(finding);
        due(what, call.getAsInt(), TiedRow.FINDING);
        due(what + " finding()", x.finding(), finding);
        due(what + " findings()", x.findings(finding), before + 1);
        stays(what, x, digest, asked, upper, lower);
    }

    /** The call is refused so, and nothing is changed by it, findings neither. */
    void refuses(String what, TiedRow x, int refusal, java.util.function.IntSupplier call) {
        long digest = x.digest();
        int asked = x.asked();
        long upper = x.upper();
        long lower = x.lower();
        int finding = x.finding();
        int[] findings = new int[6];
        for (int f = 1; f <= 5; f++) {
            findings[f] = x.findings(f);
        }
        due(what, call.getAsInt(), refusal);
        due(what + " finding()", x.finding(), finding);
        for (int f = 1; f <= 5; f++) {
            due(what + " findings(" + f + ")", x.findings(f), findings[f]);
        }
        stays(what, x, digest, asked, upper, lower);
    }

    private void stays(String what, TiedRow x, long digest, int asked, long upper, long lower) {
        due(what + " digest()", x.digest(), digest);
        due(what + " asked()", x.asked(), asked);
        due(what + " upper()", x.upper(), upper);
        due(what + " lower()", x.lower(), lower);
    }

    /** Writes a text and answers the object: text() and put() are looked at elsewhere. */
    static void write(TiedRow x, int t, String signs) {
        x.text(t, signs.length());
        for (int i = 0; i < signs.length(); i++) {
            x.put(t, i, signs.charAt(i));
        }
    }

    static TiedRow worldOf(String signs) {
        TiedRow x = new TiedRow();
        write(x, 3, signs);
        x.world(3);
        return x;
    }

    /** Lays an order, as letters, into a row. */
    static void layOrder(TiedRow x, int r, String letters) {
        x.row(r, letters.length());
        for (int i = 0; i < letters.length(); i++) {
            x.lay(r, i, letters.charAt(i) - 'A');
        }
    }

    /** A row as letters. */
    static String letters(TiedRow x, int r) {
        StringBuilder out = new StringBuilder();
        for (int i = 0; x.at(r, i) == 1; i++) {
            out.append((char) ('A' + x.asked()));
        }
        return out.toString();
    }

    void dueText(String what, String got, String want) {
        looked++;
        if (!got.equals(want)) {
            wrong++;
            System.out.println(test + ": " + what + " gave " + got + ", due is " + want);
        }
    }

    void end() {
        System.out.println(test + ": " + looked + " answers looked at, " + wrong + " are not as due");
        if (wrong != 0 || looked == 0) {
            System.exit(1);
        }
    }
}
