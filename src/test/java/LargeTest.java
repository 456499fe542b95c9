import java.util.Arrays;
import java.util.Random;

/** Worlds of nine and of ten things, held against all their orders, made one by one. */
public final class LargeTest {
    private static final int[] SIGN_KINDS = {'<', '+', '@', '^', '!', '?'};
    private static final Check CHECK = new Check("LargeTest");

    private final Random lots;
    private final int n;
    private final int[][] ties = new int[10][10];
    private final int[][] rules = new int[8][];
    private int ruleCount = 0;

    private final int[] order = new int[10];
    private final int[] seats = new int[10];
    private final int[][] running = new int[11][4];
    private final int[] across = new int[11];
    private boolean counting = false;

    private int allowed = 0;
    private final int[] least = new int[4];
    private final int[] ways = new int[4];
    private final int[] wanted = new int[4];
    private final String[] found = new String[4];
    private final int[][][] at = new int[4][10][10];
    private final int[][][] ahead = new int[4][10][10];
    private final int[][] bothLeast = new int[4][4];
    private final int[][] bothWays = new int[4][4];
    private final int[][][] there = new int[4][10][10];

    private LargeTest(int n, int seed) {
        this.n = n;
        this.lots = new Random(seed);
    }

    public static void main(String[] args) {
        for (int seed = 0; seed < 10; seed++) {
            new LargeTest(9, seed).go(seed % 5);
        }
        for (int seed = 10; seed < 16; seed++) {
            new LargeTest(10, seed).go(seed % 5);
        }
        CHECK.end();
    }

    private void go(int ruleMost) {
        TiedRow x = Check.worldOf("n" + n);
        int tieCount = 6 + lots.nextInt(12);
        for (int i = 0; i < tieCount; i++) {
            int a = lots.nextInt(n);
            int b = (a + 1 + lots.nextInt(n - 1)) % n;
            int w = 1 + lots.nextInt(lots.nextBoolean() ? 1 : 4);
            ties[a][b] = ties[b][a] = w;
            x.tie(a, b, w);
        }
        for (int i = 0; i < ruleMost; i++) {
            addRule(x);
        }
        Arrays.fill(least, Integer.MAX_VALUE);
        for (int m = 0; m < 4; m++) {
            Arrays.fill(bothLeast[m], Integer.MAX_VALUE);
            for (int a = 0; a < n; a++) {
                Arrays.fill(there[m][a], TiedRow.NONE);
            }
        }
        step(0, 0);
        for (int m = 0; m < 4; m++) {
            wanted[m] = allowed == 0 ? 0 : lots.nextInt(Math.max(1, x.ways(m)));
        }
        counting = true;
        step(0, 0);
        compare(x);
    }

    private void addRule(TiedRow x) {
        int kind = 1 + lots.nextInt(SIGN_KINDS.length);
        int a = lots.nextInt(n);
        int b = (a + 1 + lots.nextInt(n - 1)) % n;
        int c = 0;
        if (kind == 3 || kind == 4) {
            b = lots.nextInt(n);
        }
        if (kind == 6) {
            for (c = 0; c == a || c == b; ) {
                c++;
            }
        }
        rules[ruleCount++] = new int[] {kind, a, b, c};
        x.rule(kind, a, b, c);
    }

    private boolean keeps(int[] rule) {
        int a = seats[rule[1]];
        switch (rule[0]) {
            case 1: return a < seats[rule[2]];
            case 2: return a + 1 == seats[rule[2]];
            case 3: return a == rule[2];
            case 4: return a <= rule[2];
            case 5: return a + 1 != seats[rule[2]] && a - 1 != seats[rule[2]];
            default: return (a - seats[rule[2]]) * (a - seats[rule[3]]) < 0;
        }
    }

    private void step(int place, int set) {
        if (place == n) {
            for (int k = 0; k < ruleCount; k++) {
                if (!keeps(rules[k])) return;
            }
            if (counting) count();
            else look();
            return;
        }
        for (int a = 0; a < n; a++) {
            if ((set >> a & 1) != 0) continue;
            order[place] = a;
            seats[a] = place;
            int now = set | 1 << a;
            int cut = across[place];
            for (int b = 0; b < n; b++) {
                cut += (set >> b & 1) != 0 ? -ties[a][b] : ties[a][b];
            }
            across[place + 1] = cut;
            int held = 0;
            for (int i = 0; i <= place; i++) {
                for (int b = 0; b < n; b++) {
                    if ((now >> b & 1) == 0 && ties[order[i]][b] > 0) {
                        held++;
                        break;
                    }
                }
            }
            running[place + 1][0] = running[place][0] + cut;
            running[place + 1][1] = Math.max(running[place][1], cut);
            running[place + 1][2] = Math.max(running[place][2], held);
            running[place + 1][3] = running[place][3] + held;
            step(place + 1, now);
        }
    }

    private void look() {
        allowed++;
        for (int m = 0; m < 4; m++) {
            int value = running[n][m];
            least[m] = Math.min(least[m], value);
            for (int a = 0; a < n; a++) {
                int[] by = there[m][a];
                if (by[seats[a]] == TiedRow.NONE || value < by[seats[a]]) by[seats[a]] = value;
            }
        }
    }

    private void count() {
        int[] value = running[n];
        for (int m = 0; m < 4; m++) {
            if (value[m] != least[m]) continue;
            if (ways[m] == wanted[m]) found[m] = letters();
            ways[m]++;
            for (int a = 0; a < n; a++) {
                at[m][a][seats[a]]++;
                for (int b = 0; b < n; b++) {
                    if (seats[a] < seats[b]) ahead[m][a][b]++;
                }
            }
            for (int l = 0; l < 4; l++) {
                if (value[l] < bothLeast[m][l]) {
                    bothLeast[m][l] = value[l];
                    bothWays[m][l] = 0;
                }
                if (value[l] == bothLeast[m][l]) bothWays[m][l]++;
            }
        }
    }

    private String letters() {
        StringBuilder out = new StringBuilder();
        for (int i = 0; i < n; i++) {
            out.append((char) ('A' + order[i]));
        }
        return out.toString();
    }

    private void compare(TiedRow x) {
        CHECK.due("all", x.all(), allowed);
        for (int m = 0; m < 4; m++) {
            CHECK.due("ways " + m, x.ways(m), ways[m]);
            if (allowed == 0) {
                CHECK.due("least " + m, x.least(m), TiedRow.FINDING);
                continue;
            }
            CHECK.due("least " + m, x.least(m), least[m]);
            CHECK.due("order " + m, x.order(m, wanted[m], 0), 1);
            CHECK.dueText("order " + m, Check.letters(x, 0), found[m]);
            CHECK.due("rank " + m, x.rank(m, 0), wanted[m]);
            for (int l = 0; l < 4; l++) {
                CHECK.due("both " + m + " " + l, x.both(m, l), bothLeast[m][l]);
                CHECK.due("how many " + m + " " + l, x.asked(), bothWays[m][l]);
            }
            for (int a = 0; a < n; a++) {
                compareThing(x, m, a);
            }
        }
    }

    private void compareThing(TiedRow x, int m, int a) {
        int bits = 0;
        long sum = 0;
        for (int p = 0; p < n; p++) {
            if (at[m][a][p] > 0) bits |= 1 << p;
            sum += (long) p * at[m][a][p];
            CHECK.due("where " + m, x.where(m, a, p), there[m][a][p]);
        }
        CHECK.due("places " + m, x.places(m, a), bits);
        CHECK.due("middle " + m, x.middle(m, a), ways[m]);
        CHECK.due("the mean place " + m, x.upper() * ways[m], sum * x.lower());
        for (int b = 0; b < n; b++) {
            if (a == b) continue;
            int in = ahead[m][a][b];
            CHECK.due("leads " + m, x.leads(m, a, b), in == ways[m] ? 2 : in > 0 ? 1 : 0);
            CHECK.due("in how many " + m, x.asked(), in);
        }
    }
}
