import java.math.BigInteger;
import java.util.ArrayList;
import java.util.List;
import java.util.TreeMap;

/**
 * The document once more, told as plainly as it goes: every order is made and looked at, nothing is clever.
 * It is held against TiedRow by ModelTest.
 */
final class Model {
    static final int BAD = -1, FULL = -2, FINDING = -3, STATE = -4, SPENT = -6, NONE = -9;

    static final class Rule {
        int kind, a, b, c;
        boolean off;
    }

    private final TreeMap<Integer, int[]> rows = new TreeMap<>();
    private final TreeMap<Integer, byte[]> texts = new TreeMap<>();
    private int n = 0;
    private int[][] ties = new int[10][10];
    private List<Rule> rules = new ArrayList<>();
    private int asked = 0, finding = 0;
    private long upper = 0, lower = 1;
    private final int[] findings = new int[6];

    private int found(int f) {
        finding = f;
        findings[f]++;
        return FINDING;
    }

    private static boolean in(int v, int from, int to) {
        return from <= v && v <= to;
    }

    int row(int r, int size) {
        if (!in(r, 0, 5) || size > 60) return BAD;
        if (size < 0) return found(5);
        rows.put(r, new int[size]);
        return size;
    }

    int lay(int r, int i, int v) {
        int answer = at(r, i);
        if (answer == 1) rows.get(r)[i] = v;
        return answer;
    }

    int at(int r, int i) {
        if (!in(r, 0, 5)) return BAD;
        if (rows.get(r) == null) return found(1);
        if (!in(i, 0, rows.get(r).length - 1)) return found(2);
        asked = rows.get(r)[i];
        return 1;
    }

    int tear(int r) {
        if (!in(r, 0, 5)) return BAD;
        if (rows.remove(r) == null) return found(1);
        return 1;
    }

    int copy(int r, int i, int to, int j, int size) {
        if (!in(r, 0, 5) || !in(to, 0, 5)) return BAD;
        if (size < 0) return found(5);
        if (rows.get(r) == null || rows.get(to) == null) return found(1);
        if (i < 0 || j < 0 || (long) i + size > rows.get(r).length || (long) j + size > rows.get(to).length) {
            return found(2);
        }
        int[] taken = rows.get(r).clone();
        for (int k = 0; k < size; k++) rows.get(to)[j + k] = taken[i + k];
        return 1;
    }

    int mean(int r) {
        if (!in(r, 0, 5)) return BAD;
        if (rows.get(r) == null) return found(1);
        if (rows.get(r).length == 0) return found(4);
        BigInteger sum = BigInteger.ZERO;
        for (int v : rows.get(r)) sum = sum.add(BigInteger.valueOf(v));
        asked = sum.divide(BigInteger.valueOf(rows.get(r).length)).intValueExact();
        return 1;
    }

    int text(int t, int size) {
        if (!in(t, 0, 3) || size > 120) return BAD;
        if (size < 0) return found(5);
        byte[] blanks = new byte[size];
        java.util.Arrays.fill(blanks, (byte) ' ');
        texts.put(t, blanks);
        return size;
    }

    int put(int t, int i, int v) {
        if (!in(t, 0, 3)) return BAD;
        if (texts.get(t) == null) return found(1);
        if (!in(i, 0, texts.get(t).length - 1)) return found(2);
        int was = texts.get(t)[i];
        texts.get(t)[i] = (byte) v;
        return was + 1000;
    }

    int fault(int t) {
        if (!in(t, 0, 3)) return BAD;
        if (texts.get(t) == null) return found(1);
        return new Automaton().run(texts.get(t));
    }

    int world(int t) {
        if (!in(t, 0, 3)) return BAD;
        if (texts.get(t) == null) return found(1);
        Automaton read = new Automaton();
        if (read.run(texts.get(t)) != NONE) return STATE;
        n = read.things;
        ties = read.ties;
        rules = read.rules;
        return n;
    }

    /** Reads a world sign by sign; where it stands is told by a word. */
    private static final class Automaton {
        int things = 0;
        final int[][] ties = new int[10][10];
        final List<Rule> rules = new ArrayList<>();
        private String state = "start";
        private int number, x, y, sign;

        int run(byte[] signs) {
            for (int i = 0; i < signs.length; i++) {
                int fault = step(i, signs[i]);
                if (fault != NONE) return fault;
            }
            if (state.equals("one figure") && in(number, 1, 10)) {
                things = number;
                state = "item";
            }
            return state.equals("item") ? NONE : signs.length;
        }

        private int step(int i, int b) {
            boolean figure = in(b, '0', '9');
            if (state.equals("one figure") && !figure) {
                if (!in(number, 1, 10)) return i;
                things = number;
                state = "item";
            }
            boolean thing = in(b, 'A', 'A' + things - 1);
            int z = b - 'A';
            switch (state) {
                case "start":
                    if (b == ' ') return NONE;
                    if (b != 'n') return i;
                    state = "n";
                    return NONE;
                case "n":
                    if (!figure) return i;
                    number = b - '0';
                    state = "one figure";
                    return NONE;
                case "one figure":
                    number = 10 * number + b - '0';
                    if (!in(number, 1, 10)) return i + 1;
                    things = number;
                    state = "item";
                    return NONE;
                case "item":
                    if (b == ' ') return NONE;
                    if (!thing) return i;
                    x = z;
                    state = "x";
                    return NONE;
                case "x":
                    if (thing && z != x) {
                        y = z;
                        state = "x y";
                        return NONE;
                    }
                    if ("<+@^!?".indexOf((char) b) < 0 || b < 0) return i;
                    if (rules.size() == 8) return i - 1;
                    sign = b;
                    state = b == '@' || b == '^' ? "place" : "other";
                    return NONE;
                case "x y":
                    if (!figure) return i;
                    ties[x][y] = ties[y][x] = b - '0';
                    state = "item";
                    return NONE;
                case "place":
                    if (!figure) return i;
                    add(b - '0', 0);
                    return NONE;
                case "other":
                    if (!thing || z == x) return i;
                    y = z;
                    if (sign == '?') state = "third";
                    else add(y, 0);
                    return NONE;
                default:
                    if (!thing || z == x || z == y) return i;
                    add(y, z);
                    return NONE;
            }
        }

        private void add(int b, int c) {
            Rule rule = new Rule();
            rule.kind = " <+@^!?".indexOf((char) sign);
            rule.a = x;
            rule.b = b;
            rule.c = c;
            rules.add(rule);
            state = "item";
        }
    }

    private boolean thing(int a) {
        return in(a, 0, n - 1);
    }

    int tie(int a, int b, int w) {
        if (!thing(a) || !thing(b) || a == b || w != NONE && !in(w, 0, 9)) return BAD;
        int was = ties[a][b];
        if (w != NONE) ties[a][b] = ties[b][a] = w;
        return was;
    }

    int rule(int kind, int a, int b, int c) {
        if (!in(kind, 0, 6)) return BAD;
        if (kind != 0 && !thing(a)) return BAD;
        if ((kind == 3 || kind == 4) && !in(b, 0, 9)) return BAD;
        if ((kind == 1 || kind == 2 || kind >= 5) && (!thing(b) || a == b)) return BAD;
        if (kind == 6 && (!thing(c) || a == c || b == c)) return BAD;
        if (rules.size() == 8) return FULL;
        Rule rule = new Rule();
        rule.kind = kind;
        if (kind != 0) {
            rule.a = a;
            rule.b = b;
        }
        if (kind == 6) rule.c = c;
        rules.add(rule);
        return rules.size() - 1;
    }

    int off(int k, int is) {
        if (!in(k, 0, rules.size() - 1) || !in(is, 0, 1)) return BAD;
        int was = rules.get(k).off ? 1 : 0;
        rules.get(k).off = is == 1;
        return was;
    }

    int back(int from) {
        if (!in(from, 0, rules.size())) return BAD;
        int went = rules.size() - from;
        rules = new ArrayList<>(rules.subList(0, from));
        return went;
    }

    private int toldOf(int k, int what) {
        Rule rule = rules.get(k);
        return new int[] {rule.kind, rule.a, rule.b, rule.c, rule.off ? 1 : 0}[what];
    }

    int told(int k, int what) {
        if (!in(k, 0, rules.size() - 1) || !in(what, 0, 4)) return BAD;
        asked = toldOf(k, what);
        return 1;
    }

    int mark(int k, int kind) {
        if (!in(k, 0, rules.size() - 1) || !in(kind, 1, 6)) return BAD;
        Rule rule = rules.get(k);
        if (kind == 1 && (rule.kind == 1 || rule.kind == 2)) return rule.a;
        if (kind == 5 && rule.kind == 6) return Math.min(rule.b, rule.c);
        if (rule.kind != kind) return found(3);
        switch (kind) {
            case 2: return rule.b;
            case 3: return rule.b;
            case 4: return rule.b < n - 1 ? rule.b : n - 1;
            case 5: return Math.min(rule.a, rule.b);
            default: return rule.a;
        }
    }

    // ---- orders, one by one

    private static int placeOf(int a, int[] order) {
        for (int i = 0; i < order.length; i++) if (order[i] == a) return i;
        return -1;
    }

    private static boolean keeps(Rule rule, int[] order) {
        if (rule.off || rule.kind == 0) return true;
        int a = placeOf(rule.a, order);
        int b = rule.kind == 3 || rule.kind == 4 ? rule.b : placeOf(rule.b, order);
        switch (rule.kind) {
            case 1: return a < b;
            case 2: return a == b - 1;
            case 3: return a == b;
            case 4: return a <= b;
            case 5: return a != b - 1 && a != b + 1;
            default:
                int c = placeOf(rule.c, order);
                return b < a && a < c || c < a && a < b;
        }
    }

    private int firstBroken(int[] order) {
        for (int k = 0; k < rules.size(); k++) if (!keeps(rules.get(k), order)) return k;
        return NONE;
    }

    private int weightAcross(int[] order, int gap) {
        int sum = 0;
        for (int i = 0; i <= gap; i++) {
            for (int j = gap + 1; j < n; j++) sum += ties[order[i]][order[j]];
        }
        return sum;
    }

    private int heldAcross(int[] order, int gap) {
        int held = 0;
        for (int i = 0; i <= gap; i++) {
            boolean is = false;
            for (int j = gap + 1; j < n; j++) is |= ties[order[i]][order[j]] > 0;
            if (is) held++;
        }
        return held;
    }

    private int measureOf(int m, int[] order) {
        int result = 0;
        if (m == 0 || m == 4) {
            for (int i = 0; i < n; i++) {
                for (int j = i + 1; j < n; j++) {
                    int w = ties[order[i]][order[j]];
                    if (m == 0) result += w * (j - i);
                    else if (w > 0) result = Math.max(result, j - i);
                }
            }
            return result;
        }
        for (int gap = 0; gap < n - 1; gap++) {
            int v = m == 1 ? weightAcross(order, gap) : heldAcross(order, gap);
            result = m == 3 ? result + v : Math.max(result, v);
        }
        return result;
    }

    /** All orders of so many things, one behind the other. */
    private static List<int[]> ordersOf(int things) {
        List<int[]> out = new ArrayList<>();
        extend(new int[things], 0, out);
        return out;
    }

    private static void extend(int[] order, int place, List<int[]> out) {
        if (place == order.length) {
            out.add(order.clone());
            return;
        }
        for (int a = 0; a < order.length; a++) {
            boolean free = true;
            for (int i = 0; i < place; i++) free &= order[i] != a;
            if (free) {
                order[place] = a;
                extend(order, place + 1, out);
            }
        }
    }

    private static final List<List<int[]>> KEPT = new ArrayList<>();

    private static List<int[]> orders(int things) {
        while (KEPT.size() <= things) KEPT.add(null);
        if (KEPT.get(things) == null) KEPT.set(things, ordersOf(things));
        return KEPT.get(things);
    }

    private List<int[]> allowed() {
        List<int[]> out = new ArrayList<>();
        for (int[] order : orders(n)) if (firstBroken(order) == NONE) out.add(order);
        return out;
    }

    private List<int[]> leastOf(int m, List<int[]> from) {
        List<int[]> out = new ArrayList<>();
        int least = Integer.MAX_VALUE;
        for (int[] order : from) {
            int v = measureOf(m, order);
            if (v < least) {
                out.clear();
                least = v;
            }
            if (v == least) out.add(order);
        }
        return out;
    }

    private boolean measureBad(int m) {
        return !in(m, 0, 4);
    }

    private boolean spent(int m) {
        return m == 4 && n > 8;
    }

    private int orderFault(int r) {
        int[] row = rows.get(r);
        if (row == null) return 1;
        if (row.length != n) return 5;
        for (int a = 0; a < n; a++) if (placeOf(a, row) < 0) return 3;
        return 0;
    }

    int measure(int m, int r) {
        if (measureBad(m) || !in(r, 0, 5)) return BAD;
        int f = orderFault(r);
        return f != 0 ? found(f) : measureOf(m, rows.get(r));
    }

    int breaks(int r) {
        if (!in(r, 0, 5)) return BAD;
        int f = orderFault(r);
        return f != 0 ? found(f) : firstBroken(rows.get(r));
    }

    int gap(int r, int i) {
        if (!in(r, 0, 5) || !in(i, 0, 8)) return BAD;
        int f = orderFault(r);
        if (f != 0) return found(f);
        if (i > n - 2) return found(2);
        asked = heldAcross(rows.get(r), i);
        return weightAcross(rows.get(r), i);
    }

    int least(int m) {
        if (measureBad(m)) return BAD;
        if (spent(m)) return SPENT;
        List<int[]> least = leastOf(m, allowed());
        return least.isEmpty() ? found(4) : measureOf(m, least.get(0));
    }

    int first(int m, int r) {
        if (measureBad(m) || !in(r, 0, 5)) return BAD;
        if (spent(m)) return SPENT;
        List<int[]> least = leastOf(m, allowed());
        if (least.isEmpty()) return found(4);
        rows.put(r, least.get(0).clone());
        return measureOf(m, least.get(0));
    }

    int ways(int m) {
        if (measureBad(m)) return BAD;
        if (spent(m)) return SPENT;
        return leastOf(m, allowed()).size();
    }

    int rank(int m, int r) {
        if (measureBad(m) || !in(r, 0, 5)) return BAD;
        int f = orderFault(r);
        if (f != 0) return found(f);
        if (spent(m)) return SPENT;
        List<int[]> least = leastOf(m, allowed());
        if (least.isEmpty()) return found(4);
        for (int k = 0; k < least.size(); k++) if (java.util.Arrays.equals(least.get(k), rows.get(r))) return k;
        return NONE;
    }

    int order(int m, int k, int r) {
        if (measureBad(m) || k < 0 || !in(r, 0, 5)) return BAD;
        if (spent(m)) return SPENT;
        List<int[]> least = leastOf(m, allowed());
        if (least.isEmpty()) return found(4);
        if (k >= least.size()) return found(2);
        rows.put(r, least.get(k).clone());
        return 1;
    }

    int all() {
        return allowed().size();
    }

    int bound(int m) {
        if (measureBad(m)) return BAD;
        int products = 0, mostTies = 0, mostWeight = 0, fewest = n == 0 ? 0 : 99;
        for (int a = 0; a < n; a++) {
            List<Integer> weights = new ArrayList<>();
            int weight = 0;
            for (int b = 0; b < n; b++) {
                if (ties[a][b] > 0) weights.add(ties[a][b]);
                weight += ties[a][b];
            }
            weights.sort((p, q) -> q - p);
            for (int i = 0; i < weights.size(); i++) products += weights.get(i) * ((i + 2) / 2);
            mostTies = Math.max(mostTies, weights.size());
            mostWeight = Math.max(mostWeight, weight);
            fewest = Math.min(fewest, weights.size());
        }
        switch (m) {
            case 0: return products / 2 + products % 2;
            case 1: return mostWeight / 2 + mostWeight % 2;
            case 2: return fewest;
            case 3: return n - groups();
            default: return mostTies / 2 + mostTies % 2;
        }
    }

    private int groups() {
        int[] name = new int[n];
        for (int a = 0; a < n; a++) name[a] = a;
        for (int a = 0; a < n; a++) {
            for (int b = 0; b < n; b++) {
                if (ties[a][b] > 0) {
                    int from = name[a], to = name[b];
                    for (int c = 0; c < n; c++) if (name[c] == from) name[c] = to;
                }
            }
        }
        return (int) java.util.Arrays.stream(name).distinct().count();
    }

    int costs(int m, int a, int b) {
        if (measureBad(m) || !thing(a) || !thing(b) || a == b) return BAD;
        if (spent(m)) return SPENT;
        List<int[]> allowed = allowed();
        if (allowed.isEmpty()) return found(4);
        int with = measureOf(m, leastOf(m, allowed).get(0));
        int w = ties[a][b];
        ties[a][b] = ties[b][a] = 0;
        int without = measureOf(m, leastOf(m, allowed).get(0));
        ties[a][b] = ties[b][a] = w;
        return with - without;
    }

    int bars(int m, int k) {
        if (measureBad(m) || !in(k, 0, rules.size() - 1)) return BAD;
        if (spent(m)) return SPENT;
        List<int[]> allowed = allowed();
        if (allowed.isEmpty()) return found(4);
        int with = measureOf(m, leastOf(m, allowed).get(0));
        boolean was = rules.get(k).off;
        rules.get(k).off = true;
        int without = measureOf(m, leastOf(m, allowed()).get(0));
        rules.get(k).off = was;
        return with - without;
    }

    int where(int m, int a, int p) {
        if (measureBad(m) || !thing(a) || !thing(p)) return BAD;
        if (spent(m)) return SPENT;
        List<int[]> allowed = allowed();
        if (allowed.isEmpty()) return found(4);
        List<int[]> there = new ArrayList<>();
        for (int[] order : allowed) if (order[p] == a) there.add(order);
        return there.isEmpty() ? NONE : measureOf(m, leastOf(m, there).get(0));
    }

    int places(int m, int a) {
        if (measureBad(m) || !thing(a)) return BAD;
        if (spent(m)) return SPENT;
        List<int[]> least = leastOf(m, allowed());
        if (least.isEmpty()) return found(4);
        int bits = 0;
        for (int[] order : least) bits |= 1 << placeOf(a, order);
        return bits;
    }

    int middle(int m, int a) {
        if (measureBad(m) || !thing(a)) return BAD;
        if (spent(m)) return SPENT;
        List<int[]> least = leastOf(m, allowed());
        if (least.isEmpty()) return found(4);
        long sum = 0;
        for (int[] order : least) sum += placeOf(a, order);
        fraction(sum, least.size());
        return least.size();
    }

    private void fraction(long above, long below) {
        long g = BigInteger.valueOf(above).gcd(BigInteger.valueOf(below)).longValueExact();
        upper = above / g;
        lower = below / g;
    }

    int leads(int m, int a, int b) {
        if (measureBad(m) || !thing(a) || !thing(b) || a == b) return BAD;
        if (spent(m)) return SPENT;
        List<int[]> least = leastOf(m, allowed());
        if (least.isEmpty()) return found(4);
        int ahead = 0;
        for (int[] order : least) if (placeOf(a, order) < placeOf(b, order)) ahead++;
        asked = ahead;
        return ahead == least.size() ? 2 : ahead > 0 ? 1 : 0;
    }

    int both(int m, int l) {
        if (measureBad(m) || measureBad(l)) return BAD;
        if (spent(m) || spent(l)) return SPENT;
        List<int[]> least = leastOf(l, leastOf(m, allowed()));
        if (least.isEmpty()) return found(4);
        asked = least.size();
        return measureOf(l, least.get(0));
    }

    int must() {
        List<Integer> on = new ArrayList<>();
        for (int k = 0; k < rules.size(); k++) if (!rules.get(k).off) on.add(k);
        int fewest = 99, first = 0;
        for (int set = 0; set < 256; set++) {
            boolean fits = true;
            for (int k = 0; k < 8; k++) fits &= (set >> k & 1) == 0 || on.contains(k);
            if (fits && Integer.bitCount(set) < fewest && someKeepsAllBut(set)) {
                fewest = Integer.bitCount(set);
                first = set;
            }
        }
        asked = first;
        return fewest;
    }

    private boolean someKeepsAllBut(int set) {
        for (int[] order : orders(n)) {
            boolean kept = true;
            for (int k = 0; k < rules.size() && kept; k++) kept = (set >> k & 1) != 0 || keeps(rules.get(k), order);
            if (kept) return true;
        }
        return false;
    }

    int swaps(int m, int r) {
        return improve(m, r, false);
    }

    int moves(int m, int r) {
        return improve(m, r, true);
    }

    private int improve(int m, int r, boolean moves) {
        if (measureBad(m) || !in(r, 0, 5)) return BAD;
        int f = orderFault(r);
        if (f != 0) return found(f);
        if (firstBroken(rows.get(r)) != NONE) return found(3);
        int done = 0;
        while (true) {
            int[] now = rows.get(r);
            int[] best = null;
            for (int[] next : moves ? movesOf(now) : swapsOf(now)) {
                if (firstBroken(next) == NONE && measureOf(m, next) < measureOf(m, best == null ? now : best)) best = next;
            }
            if (best == null) {
                asked = measureOf(m, now);
                return done;
            }
            rows.put(r, best);
            done++;
        }
    }

    private List<int[]> swapsOf(int[] order) {
        List<int[]> out = new ArrayList<>();
        for (int i = 0; i + 1 < n; i++) {
            int[] next = order.clone();
            next[i] = order[i + 1];
            next[i + 1] = order[i];
            out.add(next);
        }
        return out;
    }

    private List<int[]> movesOf(int[] order) {
        List<int[]> out = new ArrayList<>();
        for (int a = 0; a < n; a++) {
            for (int p = 0; p < n; p++) {
                if (order[p] == a) continue;
                List<Integer> next = new ArrayList<>();
                for (int b : order) if (b != a) next.add(b);
                next.add(p, a);
                out.add(next.stream().mapToInt(Integer::intValue).toArray());
            }
        }
        return out;
    }

    int apart(int r, int other) {
        if (!in(r, 0, 5) || !in(other, 0, 5)) return BAD;
        for (int f : new int[] {1, 5, 3}) {
            if (orderFault(r) == f || orderFault(other) == f) return found(f);
        }
        int[] now = rows.get(r).clone();
        int swaps = 0;
        for (int p = 0; p < n; p++) {
            for (int i = placeOf(rows.get(other)[p], now); i > p; i--) {
                int kept = now[i];
                now[i] = now[i - 1];
                now[i - 1] = kept;
                swaps++;
            }
        }
        return swaps;
    }

    private BigInteger lot;

    private int[] drawn() {
        List<Integer> left = new ArrayList<>();
        for (int a = 0; a < n; a++) left.add(a);
        int[] out = new int[n];
        for (int i = 0; i < n; i++) {
            lot = lot.multiply(BigInteger.valueOf(48271)).mod(BigInteger.valueOf(2147483647));
            out[i] = left.remove(lot.mod(BigInteger.valueOf(left.size())).intValueExact());
        }
        return out;
    }

    int draw(int seed, int r) {
        if (!in(seed, 1, 2147483646) || !in(r, 0, 5)) return BAD;
        lot = BigInteger.valueOf(seed);
        rows.put(r, drawn());
        return lot.intValueExact();
    }

    int lots(int m, int times, int seed) {
        if (measureBad(m) || !in(times, 1, 200) || !in(seed, 1, 2147483646)) return BAD;
        lot = BigInteger.valueOf(seed);
        int fit = 0, least = NONE;
        for (int i = 0; i < times; i++) {
            int[] order = drawn();
            if (firstBroken(order) != NONE) continue;
            fit++;
            int v = measureOf(m, order);
            if (least == NONE || v < least) least = v;
        }
        asked = least;
        return fit;
    }

    int average() {
        if (n == 0) return found(4);
        long sum = 0;
        List<int[]> orders = orders(n);
        for (int[] order : orders) sum += measureOf(0, order);
        fraction(sum, orders.size());
        return 1;
    }

    private List<Integer> weights() {
        List<Integer> out = new ArrayList<>();
        for (int a = 0; a < n; a++) for (int b = a + 1; b < n; b++) out.add(ties[a][b]);
        return out;
    }

    int image(int r) {
        if (!in(r, 0, 5)) return BAD;
        List<Integer> image = weights();
        int bits = 0;
        for (int k = 0; k < rules.size(); k++) if (rules.get(k).off) bits += 1 << k;
        image.add(bits);
        rows.put(r, image.stream().mapToInt(Integer::intValue).toArray());
        return image.size();
    }

    int on(int r) {
        if (!in(r, 0, 5)) return BAD;
        int[] row = rows.get(r);
        if (row == null) return found(1);
        if (row.length != n * (n - 1) / 2 + 1) return found(5);
        for (int i = 0; i < row.length; i++) {
            if (!in(row[i], 0, i < row.length - 1 ? 9 : (1 << rules.size()) - 1)) return found(3);
        }
        int i = 0;
        for (int a = 0; a < n; a++) for (int b = a + 1; b < n; b++) ties[a][b] = ties[b][a] = row[i++];
        for (int k = 0; k < rules.size(); k++) rules.get(k).off = (row[i] >> k & 1) == 1;
        return 1;
    }

    int asked() {
        return asked;
    }

    long upper() {
        return upper;
    }

    long lower() {
        return lower;
    }

    int count(int what) {
        int ahead = 0, off = 0;
        for (Rule rule : rules) {
            if (rule.kind == 1 || rule.kind == 2) ahead++;
            if (rule.off) off++;
        }
        switch (what) {
            case 0: return n;
            case 1: return (int) weights().stream().filter(w -> w > 0).count();
            case 2: return rules.size();
            case 3: return ahead;
            case 4: return off;
            case 5: return rows.size();
            case 6: return texts.size();
            default: return BAD;
        }
    }

    int finding() {
        return finding;
    }

    int findings(int f) {
        return in(f, 1, 5) ? findings[f] : BAD;
    }

    long digest() {
        List<Long> told = new ArrayList<>();
        for (int what = 0; what <= 6; what++) told.add((long) count(what));
        for (int w : weights()) told.add((long) w);
        for (int k = 0; k < rules.size(); k++) for (int what = 0; what <= 4; what++) told.add((long) toldOf(k, what));
        for (int r = 0; r < 6; r++) {
            int[] row = rows.get(r);
            told.add(row == null ? -1L : row.length);
            if (row != null) for (int v : row) told.add((long) v);
        }
        for (int t = 0; t < 4; t++) {
            byte[] text = texts.get(t);
            told.add(text == null ? -1L : text.length);
            if (text != null) for (byte v : text) told.add((long) v);
        }
        long h = 17;
        for (long v : told) h = 31 * h + v;
        return h;
    }
}
