/** Promises 1 to 9: a new object, rows and texts. */
public final class RowsTest {
    private static final int LOW = Check.LOW, HIGH = Check.HIGH, BAD = TiedRow.BAD;
    private static final int NOTHING = Check.NOTHING, BEYOND = Check.BEYOND, NOUGHT = Check.NOUGHT, SIZE = Check.SIZE;
    private static final int[] NO_ROWS = Check.outside(0, 5), NO_TEXTS = Check.outside(0, 3);
    /** Its ties are told by the world's own text, 3. */
    private static final String WORLD = "n3 AB2 BC1 A<B";
    private static final Check CHECK = new Check("RowsTest");

    public static void main(String[] args) {
        newObject();
        row();
        rowRefused();
        lay();
        at();
        layAndAtRefused();
        tear();
        tearRefused();
        copy();
        copyRefused();
        copyRefusedInOrder();
        mean();
        meanRefused();
        text();
        textRefused();
        put();
        putRefused();
        CHECK.end();
    }

    private static void newObject() {
        CHECK.says(1, "No ROWS, TEXTS, THINGS, TIES, RULES.");
        TiedRow x = new TiedRow();
        for (int what = 0; what <= 6; what++) {
            CHECK.due("count(" + what + ")", x.count(what), 0);
        }
        for (int r = 0; r < 6; r++) {
            int row = r;
            CHECK.finds("tear(" + r + ")", x, NOTHING, () -> x.tear(row));
        }
        for (int t = 0; t < 4; t++) {
            int text = t;
            CHECK.finds("fault(" + t + ")", x, NOTHING, () -> x.fault(text));
        }
        CHECK.refuses("no thing", x, BAD, () -> x.places(0, 0));
        CHECK.refuses("no tie", x, BAD, () -> x.tie(0, 1, TiedRow.NONE));
        CHECK.refuses("no rule", x, BAD, () -> x.told(0, 0));
        CHECK.due("rules that go", x.back(0), 0);
        CHECK.due("its image", x.image(0), 1);
        CHECK.shows("its image", x, 0, 0);
    }

    // ---- 2 row

    private static void row() {
        CHECK.says(2, "A ROW is there with n ints 0: n.");
        TiedRow x = new TiedRow();
        for (int r = 0; r < 6; r++) {
            for (int n : new int[] {0, 1, 59, 60}) {
                CHECK.due("row(" + r + ", " + n + ")", x.row(r, n), n);
                CHECK.shows("row(" + r + ", " + n + ")", x, r, new int[n]);
            }
            CHECK.due("so many are there", x.count(5), r + 1);
        }
        for (int i = 0; i < 60; i++) {
            x.lay(0, i, 7);
        }
        x.row(0, 2);
        CHECK.shows("anew and lesser", x, 0, 0, 0);
        x.row(0, 60);
        CHECK.shows("anew and greater", x, 0, new int[60]);
        CHECK.due("none is more", x.count(5), 6);
    }

    private static void rowRefused() {
        TiedRow x = Check.rich(WORLD);
        CHECK.says(2, "BAD: also n above 60;");
        CHECK.refuses("row(4, 61)", x, BAD, () -> x.row(4, 61));
        CHECK.refuses("row(4, HIGH)", x, BAD, () -> x.row(4, HIGH));
        CHECK.refuses("row(5, 61)", x, BAD, () -> x.row(5, 61));
        for (int r : NO_ROWS) {
            for (int n : new int[] {1, -1, LOW, 61}) {
                CHECK.refuses("row(" + r + ", " + n + ")", x, BAD, () -> x.row(r, n));
            }
        }
        CHECK.says(2, "SIZE: below 0.");
        for (int r = 0; r < 6; r++) {
            int row = r;
            CHECK.finds("row(" + r + ", -1)", x, SIZE, () -> x.row(row, -1));
            CHECK.finds("row(" + r + ", LOW)", x, SIZE, () -> x.row(row, LOW));
        }
    }

    // ---- 3 lay, 4 at

    private static void lay() {
        CHECK.says(3, "Place i of a ROW is v: what it was, told by asked(): 1.");
        TiedRow x = new TiedRow();
        x.row(5, 60);
        int[] values = {HIGH, LOW, -1, 1, 0};
        for (int i : new int[] {0, 30, 59}) {
            int was = 0;
            for (int v : values) {
                CHECK.due("lay(5, " + i + ", " + v + ")", x.lay(5, i, v), 1);
                CHECK.due("what it was", x.asked(), was);
                was = v;
            }
            x.lay(5, i, i + 1);
        }
        int[] want = new int[60];
        want[0] = 1;
        want[30] = 31;
        want[59] = 60;
        CHECK.shows("the others stay", x, 5, want);
    }

    private static void at() {
        CHECK.says(4, "Place i of a ROW, told by asked(): 1.");
        TiedRow x = new TiedRow();
        x.row(0, 60);
        x.lay(0, 0, HIGH);
        x.lay(0, 59, LOW);
        for (int[] due : new int[][] {{0, HIGH}, {1, 0}, {58, 0}, {59, LOW}, {59, LOW}}) {
            long digest = x.digest();
            CHECK.due("at(0, " + due[0] + ")", x.at(0, due[0]), 1);
            CHECK.due("it is", x.asked(), due[1]);
            CHECK.due("it stays", x.digest(), digest);
        }
    }

    /** lay() or at(), by a row and a place. */
    private interface ByPlace {
        int on(TiedRow x, int r, int i);
    }

    private static void layAndAtRefused() {
        CHECK.says(3, "BAD; NOTHING; BEYOND.");
        refusedByPlace((x, r, i) -> x.lay(r, i, 1));
        CHECK.says(4, "BAD; NOTHING; BEYOND.");
        refusedByPlace(TiedRow::at);
    }

    private static void refusedByPlace(ByPlace call) {
        TiedRow x = Check.rich(WORLD);
        for (int r : NO_ROWS) {
            CHECK.refuses("place 0 of row " + r, x, BAD, () -> call.on(x, r, 0));
            CHECK.refuses("place 60 of row " + r, x, BAD, () -> call.on(x, r, 60));
        }
        for (int i : new int[] {0, -1, 60, LOW, HIGH}) {
            CHECK.finds("place " + i + " of a missing one", x, NOTHING, () -> call.on(x, 5, i));
        }
        for (int i : new int[] {-1, 3, 59, 60, LOW, HIGH}) {
            CHECK.finds("place " + i + " of three", x, BEYOND, () -> call.on(x, 0, i));
        }
        for (int i : Check.outside(0, 59)) {
            CHECK.finds("place " + i + " of sixty", x, BEYOND, () -> call.on(x, 4, i));
        }
        x.row(5, 0);
        CHECK.finds("place 0 of an empty one", x, BEYOND, () -> call.on(x, 5, 0));
        x.row(4, 1);
        CHECK.finds("place 1 of one that had more", x, BEYOND, () -> call.on(x, 4, 1));
    }

    // ---- 5 tear

    private static void tear() {
        CHECK.says(5, "A ROW is missing: 1.");
        TiedRow x = new TiedRow();
        for (int r = 0; r < 6; r++) {
            x.row(r, r * 12);
        }
        TiedRow fresh = new TiedRow();
        for (int r = 0; r < 6; r++) {
            int row = r;
            CHECK.due("tear(" + r + ")", x.tear(r), 1);
            CHECK.due("the others are there", x.count(5), 5 - r);
            CHECK.finds("it is missing", x, NOTHING, () -> x.at(row, 0));
        }
        CHECK.due("as if it had never been", x.digest(), fresh.digest());
        x.row(5, 60);
        x.lay(5, 59, 8);
        x.tear(5);
        x.row(5, 60);
        CHECK.shows("there again", x, 5, new int[60]);
    }

    private static void tearRefused() {
        CHECK.says(5, "BAD; NOTHING.");
        TiedRow x = Check.rich(WORLD);
        for (int r : NO_ROWS) {
            CHECK.refuses("tear(" + r + ")", x, BAD, () -> x.tear(r));
        }
        CHECK.finds("tear(5)", x, NOTHING, () -> x.tear(5));
        x.tear(0);
        CHECK.finds("tear(0) again", x, NOTHING, () -> x.tear(0));
    }

    // ---- 6 copy

    private static void fill(TiedRow x, int r, int n, int from) {
        x.row(r, n);
        for (int i = 0; i < n; i++) {
            x.lay(r, i, from + i);
        }
    }

    private static void copy() {
        CHECK.says(6, "n places of a ROW, from one on, come to those of another one (perhaps itself) from one on, "
            + "as if taken ahead: 1.");
        TiedRow x = new TiedRow();
        fill(x, 0, 5, 10);
        fill(x, 1, 3, 20);
        CHECK.due("copy", x.copy(0, 3, 1, 1, 2), 1);
        CHECK.shows("copied", x, 1, 20, 13, 14);
        CHECK.shows("copied from", x, 0, 10, 11, 12, 13, 14);
        CHECK.due("copy behind itself", x.copy(0, 0, 0, 1, 4), 1);
        CHECK.shows("copied behind itself", x, 0, 10, 10, 11, 12, 13);
        CHECK.due("copy ahead of itself", x.copy(0, 1, 0, 0, 4), 1);
        CHECK.shows("copied ahead of itself", x, 0, 10, 11, 12, 13, 13);
        CHECK.due("copy a whole one", x.copy(1, 0, 0, 2, 3), 1);
        CHECK.shows("copied a whole one", x, 0, 10, 11, 20, 13, 14);
        CHECK.due("copy onto itself", x.copy(0, 0, 0, 0, 5), 1);
        CHECK.shows("copied onto itself", x, 0, 10, 11, 20, 13, 14);
        fill(x, 2, 60, 100);
        x.row(5, 60);
        CHECK.due("copy sixty", x.copy(2, 0, 5, 0, 60), 1);
        CHECK.due("copy the last one", x.copy(0, 4, 5, 59, 1), 1);
        for (int i = 0; i < 60; i++) {
            x.at(5, i);
            CHECK.due("place " + i + " of sixty", x.asked(), i == 59 ? 14 : 100 + i);
        }
        x.row(3, 0);
        for (int[] none : new int[][] {{0, 0, 1, 0}, {0, 5, 1, 3}, {0, 5, 1, 0}, {0, 0, 1, 3}, {3, 0, 3, 0}, {2, 60, 5, 60}}) {
            long digest = x.digest();
            CHECK.due("copy none", x.copy(none[0], none[1], none[2], none[3], 0), 1);
            CHECK.due("nothing is changed", x.digest(), digest);
        }
    }

    /** Row 0 has three places, row 4 sixty, row 5 is missing. */
    private static void copyRefused() {
        TiedRow x = Check.rich(WORLD);
        CHECK.says(6, "SIZE: n below 0;");
        CHECK.finds("copy -1", x, SIZE, () -> x.copy(0, 0, 4, 0, -1));
        CHECK.finds("copy LOW", x, SIZE, () -> x.copy(4, 0, 0, 0, LOW));
        CHECK.says(6, "NOTHING: either;");
        CHECK.finds("copy from a missing one", x, NOTHING, () -> x.copy(5, 0, 0, 0, 0));
        CHECK.finds("copy to a missing one", x, NOTHING, () -> x.copy(0, 0, 5, 0, 0));
        CHECK.finds("copy a missing one to itself", x, NOTHING, () -> x.copy(5, 0, 5, 0, 1));
        CHECK.says(6, "BEYOND: not so many there");
        CHECK.finds("one too many from", x, BEYOND, () -> x.copy(0, 0, 4, 0, 4));
        CHECK.finds("one too many to", x, BEYOND, () -> x.copy(4, 0, 0, 0, 4));
        CHECK.finds("one too many from 2", x, BEYOND, () -> x.copy(0, 2, 4, 0, 2));
        CHECK.finds("one too many to 2", x, BEYOND, () -> x.copy(4, 0, 0, 2, 2));
        CHECK.finds("from below", x, BEYOND, () -> x.copy(0, -1, 4, 0, 2));
        CHECK.finds("to below", x, BEYOND, () -> x.copy(4, 0, 0, -1, 2));
        CHECK.finds("61 of sixty", x, BEYOND, () -> x.copy(4, 0, 4, 0, 61));
        CHECK.finds("HIGH", x, BEYOND, () -> x.copy(4, 0, 4, 0, HIGH));
        CHECK.finds("HIGH from 1", x, BEYOND, () -> x.copy(4, 1, 4, 1, HIGH));
        CHECK.finds("HIGH from HIGH", x, BEYOND, () -> x.copy(4, HIGH, 4, 0, HIGH));
        CHECK.finds("to HIGH", x, BEYOND, () -> x.copy(4, 0, 4, HIGH, HIGH));
        CHECK.finds("one from HIGH", x, BEYOND, () -> x.copy(4, HIGH, 4, 0, 1));
        CHECK.finds("one from LOW", x, BEYOND, () -> x.copy(4, LOW, 4, 0, 1));
        CHECK.finds("HIGH from LOW", x, BEYOND, () -> x.copy(4, LOW, 4, LOW, HIGH));
        CHECK.says(6, "(also with n 0, if i, j is below 0, or above its size).");
        for (int i : new int[] {-1, 4, LOW, HIGH}) {
            CHECK.finds("none from " + i, x, BEYOND, () -> x.copy(0, i, 4, 0, 0));
            CHECK.finds("none to " + i, x, BEYOND, () -> x.copy(4, 0, 0, i, 0));
        }
        CHECK.finds("none from 61", x, BEYOND, () -> x.copy(4, 61, 0, 0, 0));
        CHECK.answers("none from 60 to 3", x, 1, () -> x.copy(4, 60, 0, 3, 0));
    }

    /** Each refusal with all that come behind it. */
    private static void copyRefusedInOrder() {
        TiedRow x = Check.rich(WORLD);
        CHECK.says(6, "BAD;");
        for (int r : NO_ROWS) {
            CHECK.refuses("copy from " + r, x, BAD, () -> x.copy(r, 0, 0, 0, 0));
            CHECK.refuses("copy to " + r, x, BAD, () -> x.copy(0, 0, r, 0, 0));
        }
        CHECK.says(6, "(In this order.)");
        for (int r : NO_ROWS) {
            CHECK.refuses("copy from " + r, x, BAD, () -> x.copy(r, -1, 5, -1, -1));
            CHECK.refuses("copy to " + r, x, BAD, () -> x.copy(5, -1, r, -1, -1));
        }
        CHECK.finds("copy -1 from a missing one", x, SIZE, () -> x.copy(5, -1, 0, -1, -1));
        CHECK.finds("copy -1 to a missing one", x, SIZE, () -> x.copy(0, -1, 5, -1, -1));
        CHECK.finds("copy -1 from beyond", x, SIZE, () -> x.copy(0, 4, 0, 4, -1));
        CHECK.finds("copy from a missing one to beyond", x, NOTHING, () -> x.copy(5, 0, 0, 9, 1));
        CHECK.finds("copy from beyond to a missing one", x, NOTHING, () -> x.copy(0, 9, 5, 0, 1));
    }

    // ---- 7 mean

    private static void mean(int want, int... values) {
        TiedRow x = new TiedRow();
        Check.layRow(x, 3, values);
        CHECK.due("mean", x.mean(3), 1);
        CHECK.due("of " + java.util.Arrays.toString(values), x.asked(), want);
    }

    private static int[] sixty(int value) {
        int[] values = new int[60];
        java.util.Arrays.fill(values, value);
        return values;
    }

    private static void mean() {
        CHECK.says(7, "The mean of a ROW's ints, cut, told by asked(): 1.");
        mean(2, 1, 2, 3, 4);
        mean(1, 3, 0);
        mean(-1, -3, 0);
        mean(0, -1, 0, 0);
        mean(0, 1, 0, 0);
        mean(0, 0);
        mean(5, 5);
        mean(HIGH, HIGH);
        mean(LOW, LOW);
        mean(0, LOW, HIGH);
        mean(HIGH, HIGH, HIGH);
        mean(LOW, LOW, LOW);
        mean(HIGH - 1, HIGH, HIGH - 1);
        mean(HIGH, sixty(HIGH));
        mean(LOW, sixty(LOW));
        mean(0, sixty(0));
    }

    private static void meanRefused() {
        CHECK.says(7, "BAD; NOTHING; NOUGHT.");
        TiedRow x = Check.rich(WORLD);
        for (int r : NO_ROWS) {
            CHECK.refuses("mean(" + r + ")", x, BAD, () -> x.mean(r));
        }
        CHECK.finds("mean of a missing one", x, NOTHING, () -> x.mean(5));
        x.row(5, 0);
        CHECK.finds("mean of an empty one", x, NOUGHT, () -> x.mean(5));
    }

    // ---- 8 text

    private static void blanks(String what, TiedRow x, int t, int n) {
        for (int i = 0; i < n; i++) {
            CHECK.due(what + ": byte " + i, x.put(t, i, 32), 1032);
        }
        CHECK.finds(what + ": its end", x, BEYOND, () -> x.put(t, n, 32));
    }

    private static void text() {
        CHECK.says(8, "A TEXT is there with n blanks: n.");
        TiedRow x = new TiedRow();
        for (int t = 0; t < 4; t++) {
            for (int n : new int[] {0, 1, 119, 120}) {
                CHECK.due("text(" + t + ", " + n + ")", x.text(t, n), n);
                blanks("text(" + t + ", " + n + ")", x, t, n);
            }
            CHECK.due("so many are there", x.count(6), t + 1);
        }
        for (int i = 0; i < 120; i++) {
            x.put(0, i, 65);
        }
        x.text(0, 2);
        blanks("anew and lesser", x, 0, 2);
        x.text(0, 120);
        blanks("anew and greater", x, 0, 120);
        CHECK.due("none is more", x.count(6), 4);
    }

    private static void textRefused() {
        TiedRow x = Check.rich(WORLD);
        CHECK.says(8, "BAD: also n above 120;");
        CHECK.refuses("text(1, 121)", x, BAD, () -> x.text(1, 121));
        CHECK.refuses("text(1, HIGH)", x, BAD, () -> x.text(1, HIGH));
        CHECK.refuses("text(2, 121)", x, BAD, () -> x.text(2, 121));
        for (int t : NO_TEXTS) {
            for (int n : new int[] {1, -1, LOW, 121}) {
                CHECK.refuses("text(" + t + ", " + n + ")", x, BAD, () -> x.text(t, n));
            }
        }
        CHECK.says(8, "SIZE: below 0.");
        for (int t = 0; t < 4; t++) {
            int text = t;
            CHECK.finds("text(" + t + ", -1)", x, SIZE, () -> x.text(text, -1));
            CHECK.finds("text(" + t + ", LOW)", x, SIZE, () -> x.text(text, LOW));
        }
    }

    // ---- 9 put

    private static void put() {
        CHECK.says(9, "Byte i of a TEXT is v, cut to a byte (-128 .. 127): what it was, and 1000 more.");
        TiedRow x = new TiedRow();
        x.text(3, 120);
        int[][] puts = {{127, 127}, {128, -128}, {-128, -128}, {-129, 127}, {255, -1}, {256, 0}, {-1, -1}, {-256, 0},
            {-257, -1}, {383, 127}, {384, -128}, {HIGH, -1}, {LOW, 0}, {LOW + 127, 127}, {HIGH - 127, -128}, {0, 0}, {65, 65}};
        for (int i : new int[] {0, 60, 119}) {
            int was = 32;
            for (int[] each : puts) {
                CHECK.due("put(3, " + i + ", " + each[0] + ")", x.put(3, i, each[0]), 1000 + was);
                was = each[1];
            }
            CHECK.due("what it is now", x.put(3, i, 32), 1065);
        }
        blanks("the others stay", x, 3, 120);
    }

    private static void putRefused() {
        CHECK.says(9, "BAD; NOTHING; BEYOND.");
        TiedRow x = Check.rich(WORLD);
        for (int t : NO_TEXTS) {
            CHECK.refuses("put(" + t + ", 0)", x, BAD, () -> x.put(t, 0, 1));
            CHECK.refuses("put(" + t + ", 120)", x, BAD, () -> x.put(t, 120, 1));
        }
        for (int i : new int[] {0, -1, 120, LOW, HIGH}) {
            CHECK.finds("put(2, " + i + ") of a missing one", x, NOTHING, () -> x.put(2, i, 1));
        }
        for (int i : new int[] {-1, 9, 119, 120, LOW, HIGH}) {
            CHECK.finds("put(0, " + i + ") of nine", x, BEYOND, () -> x.put(0, i, 1));
        }
        for (int i : Check.outside(0, 119)) {
            CHECK.finds("put(1, " + i + ") of 120", x, BEYOND, () -> x.put(1, i, 1));
        }
        x.text(2, 0);
        CHECK.finds("put(2, 0) of an empty one", x, BEYOND, () -> x.put(2, 0, 1));
    }
}
