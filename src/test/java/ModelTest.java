import java.util.ArrayList;
import java.util.List;
import java.util.Random;

/** Runs of calls drawn by lots, the same on TiedRow and on the plain Model: all answers are to be alike. */
public final class ModelTest {
    /** Each call with the kinds of its numbers (see number()) and how often it comes. */
    private static final String[] CALLS = {
        "row R size 3", "lay R place value 4", "at R place 3", "tear R 1", "copy R place R place place 3", "mean R 2",
        "text T size 1", "put T place sign 3", "fault T 2", "world T 1", "tie A A weight 8", "rule kind A AP A 8",
        "off k bit 6", "back k 1", "told k five 4", "mark k kind 8",
        "measure M R 8", "breaks R 6", "gap R nine 6", "least M 6", "first M R 6", "ways M 5", "rank M R 8",
        "order M few R 8", "all 3", "bound M 6", "costs M A A 6", "bars M k 6", "where M A A 8", "places M A 6",
        "middle M A 6", "leads M A A 8", "both M M 10", "must 4", "swaps M R 6", "moves M R 6", "apart R R 5",
        "draw seed R 6", "lots M few seed 4", "average 3", "image R 3", "on R 5", "asked 1", "upper 1", "lower 1",
        "count seven 4", "finding 1", "findings five 2", "digest 1",
    };
    private static final String SIGNS = "nAABBCDEFGHIJKa0123456789  <+@^!?=\u007f";

    private final Random lots;
    private final Pair pair;
    private final Model model;
    private final int things;

    private ModelTest(int run, int things, Check check) {
        this.things = things;
        this.pair = new Pair("run " + run, check);
        this.model = pair.model;
        this.lots = new Random(7919L * run + things);
    }

    public static void main(String[] args) {
        Check check = new Check("ModelTest");
        int run = 0;
        for (int i = 0; i < 700; i++) {
            new ModelTest(run++, i % 7, check).go(400);
        }
        for (int i = 0; i < 40; i++) {
            new ModelTest(run++, 7, check).go(150);
        }
        for (int i = 0; i < 24; i++) {
            new ModelTest(run++, 8, check).go(100);
        }
        check.end();
    }

    private void go(int calls) {
        if (things > 0) {
            pair.write(3, worldText());
            pair.call("world", 3);
        }
        for (int i = 0; i < calls && pair.isAlike(); i++) {
            int what = lots.nextInt(24);
            if (what == 0) {
                pair.write(lots.nextInt(4), lots.nextInt(3) == 0 ? brokenText() : worldText());
                pair.call(lots.nextBoolean() ? "fault" : "world", lots.nextInt(4));
            } else if (what <= 3) {
                layOrder();
            } else if (what == 4) {
                reImage();
            } else {
                drawnCall();
            }
        }
    }

    private void drawnCall() {
        int total = 0;
        for (String line : CALLS) total += often(line);
        int lot = lots.nextInt(total);
        for (String line : CALLS) {
            lot -= often(line);
            if (lot < 0) {
                String[] words = line.split(" ");
                int[] numbers = new int[words.length - 2];
                for (int i = 0; i < numbers.length; i++) numbers[i] = number(words[i + 1]);
                pair.call(words[0], numbers);
                return;
            }
        }
    }

    private static int often(String line) {
        return Integer.parseInt(line.substring(line.lastIndexOf(' ') + 1));
    }

    private int among(int from, int to) {
        return from + lots.nextInt(to - from + 1);
    }

    private int number(String kind) {
        if (lots.nextInt(90) == 0) {
            int[] wild = {-1, Integer.MIN_VALUE, Integer.MAX_VALUE, -9, 6, 10, 11, 61, 121, 200, 201, -2147483647};
            return wild[lots.nextInt(wild.length)];
        }
        boolean edge = lots.nextInt(25) == 0;
        int n = model.count(0);
        switch (kind) {
            case "R": return edge ? among(-1, 6) : among(0, 5);
            case "T": return edge ? among(-1, 4) : among(0, 3);
            case "A": return edge || n == 0 ? among(-1, n) : among(0, n - 1);
            case "AP": return lots.nextInt(3) == 0 ? among(-1, 10) : number("A");
            case "M": return edge ? among(-1, 5) : among(0, 4);
            case "k": return edge ? among(-1, 8) : among(0, Math.max(0, model.count(2) - 1));
            case "kind": return edge ? among(-1, 7) : among(0, 6);
            case "bit": return edge ? among(-1, 2) : among(0, 1);
            case "weight": return edge ? among(-10, 10) : lots.nextInt(6) == 0 ? -9 : lots.nextInt(3) * among(0, 4);
            case "size": return edge ? among(-2, 122) : lots.nextBoolean() ? n : among(0, 12);
            case "place": return edge ? among(-1, 61) : among(0, Math.max(0, n - 1));
            case "value": return edge ? lots.nextInt() : among(0, Math.max(0, n - 1));
            case "sign": return edge ? lots.nextInt() : SIGNS.charAt(lots.nextInt(SIGNS.length()));
            case "five": return edge ? among(-1, 6) : among(0, 5);
            case "seven": return edge ? among(-1, 7) : among(0, 6);
            case "nine": return edge ? among(-1, 9) : among(0, Math.max(0, n - 1));
            case "few": return edge ? among(-1, 201) : among(0, lots.nextBoolean() ? 2 : 30);
            case "seed": return edge ? among(-1, 1) : lots.nextInt(4) == 0 ? 2147483646 - lots.nextInt(3) : among(1, 2147483646 / 2) * 2;
            default: throw new IllegalStateException(kind);
        }
    }

    private String worldText() {
        StringBuilder out = new StringBuilder();
        int n = things == 0 ? among(1, 3) : lots.nextInt(3) == 0 ? among(1, things) : things;
        blanks(out);
        out.append('n');
        if (n < 10 && lots.nextInt(9) == 0) out.append('0');
        out.append(n);
        int items = n == 1 ? lots.nextInt(2) : lots.nextInt(n * 2 + 3);
        int rules = 0;
        for (int i = 0; i < items && out.length() < 110; i++) {
            blanks(out);
            char x = (char) ('A' + lots.nextInt(n));
            char y = unlike(n, x, x);
            if (n > 1 && lots.nextInt(4) != 0) {
                out.append(x).append(y).append(lots.nextInt(10));
            } else if (rules < 8) {
                rules += ruleText(out, n, x, y);
            }
        }
        blanks(out);
        return out.toString();
    }

    private int ruleText(StringBuilder out, int n, char x, char y) {
        int kind = lots.nextInt(6);
        if (kind == 2 || kind == 3 || n == 1) {
            out.append(x).append("@^".charAt(lots.nextInt(2))).append(lots.nextInt(n + 1) % 10);
        } else if (kind == 5 && n > 2) {
            out.append(x).append('?').append(y).append(unlike(n, x, y));
        } else {
            out.append(x).append("<+!".charAt(lots.nextInt(3))).append(y);
        }
        return 1;
    }

    private char unlike(int n, char x, char y) {
        for (int i = 0; i < 1000; i++) {
            char z = (char) ('A' + lots.nextInt(n));
            if (z != x && z != y) return z;
        }
        return 'A';
    }

    private void blanks(StringBuilder out) {
        while (lots.nextInt(3) == 0 && out.length() < 118) out.append(' ');
    }

    private String brokenText() {
        StringBuilder out = new StringBuilder(worldText());
        int changes = among(1, 2);
        for (int i = 0; i < changes; i++) {
            int place = lots.nextInt(out.length() + 1);
            char sign = SIGNS.charAt(lots.nextInt(SIGNS.length()));
            int what = lots.nextInt(4);
            if (what == 0 && place < out.length()) out.deleteCharAt(place);
            else if (what == 1 && place < out.length()) out.setCharAt(place, sign);
            else if (what == 2) out.setLength(place);
            else out.insert(place, sign);
        }
        if (lots.nextInt(4) == 0) {
            for (int i = 0; i < 9; i++) out.append("B<A".charAt(0)).append("<@!".charAt(lots.nextInt(3))).append(lots.nextInt(9) == 0 ? '1' : 'A');
        }
        return out.length() > 120 ? out.substring(0, 120) : out.toString();
    }

    private void layOrder() {
        int r = lots.nextInt(6);
        int n = model.count(0);
        pair.call("row", r, n);
        List<Integer> left = new ArrayList<>();
        for (int a = 0; a < n; a++) left.add(a);
        for (int i = 0; i < n; i++) pair.call("lay", r, i, left.remove(lots.nextInt(left.size())));
    }

    private void reImage() {
        int r = lots.nextInt(6);
        pair.call("image", r);
        int size = model.count(0) * (model.count(0) - 1) / 2 + 1;
        for (int i = 0; i < 3; i++) pair.call("lay", r, lots.nextInt(size), lots.nextInt(12) == 0 ? among(-1, 10) : lots.nextInt(4));
        pair.call("on", r);
    }
}
