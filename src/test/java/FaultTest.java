/** The document's terms of a WORLD, told by a TEXT, and of a FAULT's place. */
public final class FaultTest {
    private static final int NONE = TiedRow.NONE, TEXT_MOST = 120;
    private static final Check CHECK = new Check("FaultTest");
    private static final String EIGHT_RULES = "A<BB+CA@9B^0A!CC?ABA^9C<A";

    public static void main(String[] args) {
        blanks();
        blanksWithin();
        head();
        letters();
        ties();
        signs();
        rules();
        numbersOut();
        noneSuch();
        ninthRule();
        tooEarly();
        CHECK.end();
    }

    private static String blanks(int n) {
        return " ".repeat(n);
    }

    /** The fault of a text, and that world() takes just those that have none. */
    private static TiedRow fault(String signs, int want) {
        TiedRow x = new TiedRow();
        Check.write(x, 2, signs);
        CHECK.due("fault of '" + signs + "'", x.fault(2), want);
        long digest = x.digest();
        CHECK.due("no world by fault()", x.count(0), 0);
        int things = x.world(2);
        if (want == NONE) {
            CHECK.holds("world of '" + signs + "'", things == x.count(0) && things >= 1 && things <= 10);
        } else {
            CHECK.due("world of '" + signs + "'", things, TiedRow.STATE);
            CHECK.due("no world by '" + signs + "'", x.digest(), digest);
        }
        return x;
    }

    private static void blanks() {
        CHECK.says(0, "A WORLD is a TEXT: blanks (32) ahead, between, behind as many as wanted,");
        for (int i = 0; i <= 118; i++) {
            fault(blanks(i) + "n1" + blanks(118 - i), NONE);
        }
        for (int between : new int[] {0, 1, 2, 50}) {
            TiedRow x = fault("n3" + blanks(between) + "AB1" + blanks(between) + "A<B" + blanks(3), NONE);
            CHECK.due("one tie", x.count(1), 1);
            CHECK.due("one rule", x.count(2), 1);
        }
        fault("n10AB1", NONE);
        fault("n1 A@0", NONE);
        for (char other : new char[] {0, 9, 10, 13, 31, 33, '_', 160}) {
            fault(other + "n1", 0);
            fault("n1" + other, 2);
            fault("n2" + other + "AB1", 2);
            fault("n2AB1" + other + "AB1", 5);
        }
    }

    private static void blanksWithin() {
        CHECK.says(0, "none within items.");
        String[] items = {"n3", "AB1", "A<B", "A+B", "A@1", "A^1", "A!B", "A?BC"};
        for (int i = 0; i < items.length; i++) {
            String ahead = i == 0 ? "" : "n3 ";
            for (int place = 1; place < items[i].length(); place++) {
                String signs = ahead + items[i].substring(0, place) + " " + items[i].substring(place);
                fault(signs, ahead.length() + place);
            }
        }
        // Behind n1 the number is whole: the figure is what can't stand there.
        fault("n1 0", 3);
    }

    private static void head() {
        CHECK.says(0, "The first item is n (110) and a number (one or two figures, 1 .. 10);");
        for (int n = 1; n <= 10; n++) {
            TiedRow x = fault("n" + n, NONE);
            CHECK.due("things of n" + n, x.count(0), n);
            x = fault(n < 10 ? "n0" + n : "n10", NONE);
            CHECK.due("things of two figures", x.count(0), n);
        }
        for (String none : new String[] {"N3", "m3", "o3", "3", "AB1", "A<B", "@", "-n3"}) {
            fault(none, 0);
        }
        fault("AB1 n3", 0);
        fault("n3n3", 2);
        fault("n3 n3", 3);
        fault("n3 AB1 n3", 7);
        for (String none : new String[] {"nA", "n/", "n:", "nn", "n-1", "n+1"}) {
            fault(none, 1);
        }
        // A third figure is none of the number, and no item begins with it.
        fault("n100", 3);
        fault("n010", 3);
        fault("n101", 3);
    }

    /** Which letters are things: of one thing A alone, of ten A to J. */
    private static void letters() {
        CHECK.says(0, "each other one begins with two letters x, y of unlike THINGS that there are, or one:");
        for (int n = 1; n <= 10; n++) {
            for (char x = '@'; x <= 'Z'; x++) {
                boolean there = x >= 'A' && x < 'A' + n;
                int place = n < 10 ? 2 : 3;
                fault("n" + n + x + "@0", there ? NONE : place);
                fault("n" + n + "A" + x + "1", x == '@' ? NONE : x > 'A' && there ? NONE : place + 1);
                fault("n" + n + "A<" + x, x > 'A' && there ? NONE : place + 2);
            }
            fault("n" + n + "a@0", n < 10 ? 2 : 3);
        }
        fault("n3AA1", 3);
        fault("n3CC1", 3);
        fault("n3A1", 3);
    }

    private static void ties() {
        CHECK.says(0, "x y w (a figure 0 .. 9: the TIE; the last told counts);");
        for (int w = 0; w <= 9; w++) {
            TiedRow x = fault("n10IJ" + w, NONE);
            CHECK.due("I J", x.tie(8, 9, NONE), w);
            CHECK.due("J I", x.tie(9, 8, NONE), w);
            CHECK.due("a tie, if not 0", x.count(1), w == 0 ? 0 : 1);
            CHECK.due("no other", x.tie(0, 9, NONE), 0);
        }
        fault("n3AB/", 4);
        fault("n3AB:", 4);
        fault("n3AB-1", 4);
        fault("n3ABC", 4);
        fault("n3AB10", 5);
        TiedRow x = fault("n3 AB1 BC2 BA9 CB0 AB4", NONE);
        CHECK.due("A B, the last told", x.tie(0, 1, NONE), 4);
        CHECK.due("B C, the last told", x.tie(1, 2, NONE), 0);
        CHECK.due("one tie", x.count(1), 1);
        StringBuilder full = new StringBuilder("n10");
        for (int i = 0; i < 39; i++) {
            full.append("AB").append(i % 10);
        }
        x = fault(full.toString(), NONE);
        CHECK.due("the last of 120 bytes", x.tie(0, 1, NONE), 8);
    }

    private static void dueRule(TiedRow x, int k, int... want) {
        for (int what = 0; what < 5; what++) {
            x.told(k, what);
            CHECK.due("told(" + k + ", " + what + ")", x.asked(), want[what]);
        }
    }

    private static void signs() {
        CHECK.says(0, "x < y (60) AHEAD; x + y (43) RIGHT; x @ p (64; one figure) PLACED; x ^ p (94; one figure) EARLY; "
            + "x ! y (33) APART; x ? y z (63) BETWEEN: x between y and z (all unlike).");
        dueRule(fault("n3C<A", NONE), 0, 1, 2, 0, 0, 0);
        dueRule(fault("n3C+A", NONE), 0, 2, 2, 0, 0, 0);
        dueRule(fault("n3C!A", NONE), 0, 5, 2, 0, 0, 0);
        dueRule(fault("n3C?AB", NONE), 0, 6, 2, 0, 1, 0);
        for (int p = 0; p <= 9; p++) {
            dueRule(fault("n1A@" + p, NONE), 0, 3, 0, p, 0, 0);
            dueRule(fault("n1A^" + p, NONE), 0, 4, 0, p, 0, 0);
        }
        for (String sign : new String[] {"<", "+", "!"}) {
            fault("n3A" + sign + "A", 4);
            fault("n3A" + sign + "D", 4);
            fault("n3A" + sign + "1", 4);
            fault("n3A" + sign + "BC", 6);
        }
        for (String sign : new String[] {"@", "^"}) {
            fault("n3A" + sign + "/", 4);
            fault("n3A" + sign + ":", 4);
            fault("n3A" + sign + "B", 4);
            fault("n3A" + sign + "12", 5);
        }
        fault("n3A?AB", 4);
        fault("n3A?BA", 5);
        fault("n3A?BB", 5);
        fault("n3A?BD", 5);
        fault("n3A?B1", 5);
        fault("n2A?B", 5);
        fault("n2A?BA", 5);
        fault("n3A?BCA", 7);
    }

    private static void rules() {
        CHECK.says(0, "RULES (8 at most) are 0, 1, .. as they come.");
        TiedRow x = fault("n3 " + EIGHT_RULES, NONE);
        CHECK.due("eight", x.count(2), 8);
        int[][] want = {{1, 0, 1, 0, 0}, {2, 1, 2, 0, 0}, {3, 0, 9, 0, 0}, {4, 1, 0, 0, 0}, {5, 0, 2, 0, 0}, {6, 2, 0, 1, 0},
            {4, 0, 9, 0, 0}, {1, 2, 0, 0, 0}};
        for (int k = 0; k < 8; k++) {
            dueRule(x, k, want[k]);
        }
        CHECK.refuses("there is no ninth", x, TiedRow.BAD, () -> x.told(8, 0));
        CHECK.refuses("and no room for it", x, TiedRow.FULL, () -> x.rule(0, 0, 0, 0));
        TiedRow same = fault("n2A<BA<BA<BA<BA<BA<BA<BA<B", NONE);
        CHECK.due("eight that are alike", same.count(2), 8);
    }

    private static void numbersOut() {
        CHECK.says(0, "A FAULT is the first place at which it can't go on so (a number out of these: the place behind;");
        for (String behind : new String[] {"", " ", "A", " AB1", "@"}) {
            fault("n0" + behind, 2);
            fault("n00" + behind, 3);
            fault("  n0" + behind, 4);
            for (int n = 11; n <= 99; n++) {
                fault("n" + n + behind, 3);
            }
        }
        fault("n000", 3);
        fault("n110", 3);
        fault("n0n3", 2);
    }

    /**
     * At each place of a text every other byte: those that can stand there, so that all goes on (fine), those that go
     * wrong further on (later), and all others, which are a fault right there.
     */
    private static void noneSuch() {
        CHECK.says(0, "a letter, a figure, a sign that is none such: its place;");
        String signs = "n4 AB5 A<B B+C C@3 D^9 A!D B?CD  ";
        String things = "ABCD", figures = "0123456789";
        for (int place = 0; place < signs.length(); place++) {
            char is = signs.charAt(place);
            String fine = String.valueOf(is);
            String later = "";
            if (place == 0) {
                later = " ";
            } else if (place == 1) {
                fine = "456789";
                later = "0123";
            } else if (place == 2) {
                later = things + figures;
            } else if (is == ' ') {
                later = things;
            } else if (figures.indexOf(is) >= 0) {
                fine = figures;
            } else if (things.indexOf(is) >= 0) {
                fine = things;
                later = signs.charAt(place - 1) == ' ' ? " " : place == 4 ? "<+@^!?" : "";
            } else {
                later = things.replace(signs.substring(place - 1, place), "") + "<+@^!?";
            }
            byHand(signs, place, fine, later);
        }
    }

    private static void byHand(String signs, int place, String fine, String later) {
        for (int b = -128; b < 128; b++) {
            TiedRow x = new TiedRow();
            Check.write(x, 0, signs);
            x.put(0, place, b);
            int got = x.fault(0);
            String what = "byte " + b + " at " + place + " of '" + signs + "'";
            if (b >= 0 && fine.indexOf((char) b) >= 0) {
                // Letters that are alike in one item are none such, at the later one's place.
                CHECK.due(what, got, b >= 'A' && b <= 'D' ? alikeAt(signs, place, (char) b) : NONE);
            } else if (b >= 0 && later.indexOf((char) b) >= 0) {
                CHECK.holds(what + " goes on", got == NONE || got > place);
            } else {
                CHECK.due(what, got, place);
            }
        }
    }

    /** Where the item around a place has a letter for the second time, if it has b there; NONE: nowhere. */
    private static int alikeAt(String signs, int place, char b) {
        String changed = signs.substring(0, place) + b + signs.substring(place + 1);
        int start = signs.lastIndexOf(' ', place) + 1;
        for (int i = start; changed.charAt(i) != ' '; i++) {
            for (int j = start; j < i; j++) {
                if (Character.isLetter(changed.charAt(i)) && changed.charAt(i) == changed.charAt(j)) {
                    return i;
                }
            }
        }
        return NONE;
    }

    private static void ninthRule() {
        CHECK.says(0, "a ninth RULE: its first letter;");
        String eight = "n3" + EIGHT_RULES;
        fault(eight, NONE);
        for (String ninth : new String[] {"A<B", "A+B", "A@0", "A^0", "A!B", "A?BC"}) {
            fault(eight + ninth, eight.length());
            fault(eight + "   " + ninth + " AB1", eight.length() + 3);
            fault(eight + "AB1" + ninth, eight.length() + 3);
            // It is the first place at which it can't go on, whatever is wrong behind it.
            fault(eight + ninth.substring(0, 2), eight.length());
            fault(eight + ninth.substring(0, 2) + "=", eight.length());
        }
        fault(eight + " AB3 BC1 ", NONE);
        // These are no rules: a letter that is none, a sign that is none, an end that is too early.
        fault(eight + "D<A", eight.length());
        fault(eight + "A=B", eight.length() + 1);
        fault(eight + "A", eight.length() + 1);
        fault(eight + "AB", eight.length() + 2);
    }

    private static void tooEarly() {
        CHECK.says(0, "the TEXT's size, if its end comes too early).");
        fault("", 0);
        for (int n = 1; n <= TEXT_MOST; n++) {
            fault(blanks(n), n);
        }
        String whole = " n4 AB5 A<B B+C C@3 D^9 A!D B?CD";
        for (int size = 1; size <= whole.length(); size++) {
            boolean within = size < whole.length() && whole.charAt(size) != ' ' && whole.charAt(size - 1) != ' ';
            fault(whole.substring(0, size), within || size < 3 ? size : NONE);
        }
        fault(blanks(TEXT_MOST - 1) + "n", TEXT_MOST);
        String full = "n10" + "AB1".repeat(38);
        fault(full + "AB1", NONE);
        for (String early : new String[] {"BA", "B<", "B+", "B@", "B^", "B!", "B?"}) {
            fault(full + " " + early, TEXT_MOST);
        }
        fault(full + "A?B", TEXT_MOST);
        fault(full + "  A", TEXT_MOST);
    }
}
