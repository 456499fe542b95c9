/** Promises 1 to 9: a new object, rows and texts. */
public final class RowsTest {
    private static final int NOTHING = 1, BEYOND = 2, NOUGHT = 4, SIZE = 5;
    private static final int LOW = Integer.MIN_VALUE, HIGH = Integer.MAX_VALUE;
    private static final Check CHECK = new Check("RowsTest");

    public static void main(String[] args) {
        newObject();
        row();
        layAndAt();
        tear();
        copy();
        copyRefused();
        mean();
        text();
        put();
        CHECK.end();
    }

    private static void newObject() {
        TiedRow x = new TiedRow();
        for (int what = 0; what <= 6; what++) {
            CHECK.due("new: count(" + what + ")", x.count(what), 0);
        }
        for (int r = 0; r < 6; r++) {
            CHECK.due("new: tear(" + r + ")", x.tear(r), TiedRow.FINDING);
        }
        for (int t = 0; t < 4; t++) {
            CHECK.due("new: fault(" + t + ")", x.fault(t), TiedRow.FINDING);
        }
        CHECK.due("new: findings(1)", x.findings(NOTHING), 10);
        CHECK.due("new: asked()", new TiedRow().asked(), 0);
        CHECK.due("new: all()", new TiedRow().all(), 1);
    }

    private static void row() {
        TiedRow x = new TiedRow();
        CHECK.due("row(0, 60)", x.row(0, 60), 60);
        CHECK.due("row(5, 0)", x.row(5, 0), 0);
        CHECK.due("two rows", x.count(5), 2);
        CHECK.due("lay", x.lay(0, 59, 7), 1);
        CHECK.due("row anew", x.row(0, 60), 60);
        CHECK.due("at", x.at(0, 59), 1);
        CHECK.due("its ints are 0 again", x.asked(), 0);
        CHECK.due("row lesser", x.row(0, 2), 2);
        CHECK.due("at its end", x.at(0, 1), 1);
        CHECK.finds("behind its end", x, BEYOND, () -> x.at(0, 2));
        for (int r : new int[] {-1, 6, LOW, HIGH}) {
            CHECK.refuses("row(" + r + ", 1)", x, TiedRow.BAD, () -> x.row(r, 1));
            CHECK.refuses("row(" + r + ", -1)", x, TiedRow.BAD, () -> x.row(r, -1));
        }
        CHECK.refuses("row(0, 61)", x, TiedRow.BAD, () -> x.row(0, 61));
        CHECK.refuses("row(0, HIGH)", x, TiedRow.BAD, () -> x.row(0, HIGH));
        CHECK.finds("row(0, -1)", x, SIZE, () -> x.row(0, -1));
        CHECK.finds("row(0, LOW)", x, SIZE, () -> x.row(0, LOW));
    }

    private static void layAndAt() {
        TiedRow x = new TiedRow();
        x.row(2, 3);
        CHECK.due("lay", x.lay(2, 1, HIGH), 1);
        CHECK.due("it was 0", x.asked(), 0);
        CHECK.due("lay again", x.lay(2, 1, LOW), 1);
        CHECK.due("it was HIGH", x.asked(), HIGH);
        CHECK.due("at", x.at(2, 1), 1);
        CHECK.due("it is LOW", x.asked(), LOW);
        CHECK.due("at its neighbour", x.at(2, 2), 1);
        CHECK.due("which is 0", x.asked(), 0);
        x.at(2, 1);
        for (int r : new int[] {-1, 6, LOW, HIGH}) {
            CHECK.refuses("lay(" + r + ")", x, TiedRow.BAD, () -> x.lay(r, 9, 1));
            CHECK.refuses("at(" + r + ")", x, TiedRow.BAD, () -> x.at(r, 9));
        }
        CHECK.finds("lay of none", x, NOTHING, () -> x.lay(3, -1, 1));
        CHECK.finds("at of none", x, NOTHING, () -> x.at(3, -1));
        for (int i : new int[] {-1, 3, 60, LOW, HIGH}) {
            CHECK.finds("lay at " + i, x, BEYOND, () -> x.lay(2, i, 1));
            CHECK.finds("at " + i, x, BEYOND, () -> x.at(2, i));
        }
    }

    private static void tear() {
        TiedRow x = new TiedRow();
        x.row(4, 3);
        CHECK.due("tear", x.tear(4), 1);
        CHECK.due("it is missing", x.count(5), 0);
        CHECK.finds("tear again", x, NOTHING, () -> x.tear(4));
        for (int r : new int[] {-1, 6, LOW, HIGH}) {
            CHECK.refuses("tear(" + r + ")", x, TiedRow.BAD, () -> x.tear(r));
        }
    }

    private static void fill(TiedRow x, int r, int n, int from) {
        x.row(r, n);
        for (int i = 0; i < n; i++) {
            x.lay(r, i, from + i);
        }
    }

    private static void shows(TiedRow x, String what, int r, int... want) {
        for (int i = 0; i < want.length; i++) {
            CHECK.due(what + ": at", x.at(r, i), 1);
            CHECK.due(what + ": place " + i, x.asked(), want[i]);
        }
        CHECK.due(what + ": its end", x.at(r, want.length), TiedRow.FINDING);
    }

    private static void copy() {
        TiedRow x = new TiedRow();
        fill(x, 0, 5, 10);
        fill(x, 1, 3, 20);
        CHECK.due("copy", x.copy(0, 3, 1, 1, 2), 1);
        shows(x, "copied", 1, 20, 13, 14);
        shows(x, "copied from", 0, 10, 11, 12, 13, 14);
        CHECK.due("copy on", x.copy(0, 0, 0, 1, 4), 1);
        shows(x, "copied behind itself", 0, 10, 10, 11, 12, 13);
        CHECK.due("copy back", x.copy(0, 1, 0, 0, 4), 1);
        shows(x, "copied ahead of itself", 0, 10, 11, 12, 13, 13);
        CHECK.due("copy none at the ends", x.copy(0, 5, 1, 3, 0), 1);
        CHECK.due("copy all", x.copy(1, 0, 0, 2, 3), 1);
        shows(x, "copied all", 0, 10, 11, 20, 13, 14);
    }

    private static void copyRefused() {
        TiedRow x = new TiedRow();
        fill(x, 0, 5, 10);
        fill(x, 1, 3, 20);
        for (int r : new int[] {-1, 6, LOW, HIGH}) {
            CHECK.refuses("copy from " + r, x, TiedRow.BAD, () -> x.copy(r, 0, 1, 0, -1));
            CHECK.refuses("copy to " + r, x, TiedRow.BAD, () -> x.copy(0, 0, r, 0, -1));
        }
        CHECK.finds("copy fewer than none, of none", x, SIZE, () -> x.copy(2, 9, 1, 9, -1));
        CHECK.finds("copy of none", x, NOTHING, () -> x.copy(2, 9, 1, 9, 1));
        CHECK.finds("copy to none", x, NOTHING, () -> x.copy(0, 9, 2, 9, 1));
        CHECK.finds("copy beyond there", x, BEYOND, () -> x.copy(0, 0, 1, 2, 2));
        CHECK.finds("copy beyond here", x, BEYOND, () -> x.copy(0, 4, 1, 0, 2));
        CHECK.finds("copy none ahead of here", x, BEYOND, () -> x.copy(0, -1, 1, 0, 0));
        CHECK.finds("copy none behind here", x, BEYOND, () -> x.copy(0, 6, 1, 0, 0));
        CHECK.finds("copy none ahead of there", x, BEYOND, () -> x.copy(0, 0, 1, -1, 0));
        CHECK.finds("copy none behind there", x, BEYOND, () -> x.copy(0, 0, 1, 4, 0));
        CHECK.finds("copy too many", x, BEYOND, () -> x.copy(0, 0, 1, 0, HIGH));
        CHECK.finds("copy from too far", x, BEYOND, () -> x.copy(0, HIGH, 1, 0, HIGH));
        CHECK.finds("copy from far below", x, BEYOND, () -> x.copy(0, LOW, 1, LOW, 1));
    }

    private static void mean() {
        TiedRow x = new TiedRow();
        fill(x, 0, 4, 1);
        CHECK.due("mean", x.mean(0), 1);
        CHECK.due("of 1 2 3 4, cut", x.asked(), 2);
        x.row(1, 2);
        x.lay(1, 0, -3);
        CHECK.due("mean below 0", x.mean(1), 1);
        CHECK.due("of -3 0, cut", x.asked(), -1);
        x.row(2, 60);
        for (int i = 0; i < 60; i++) {
            x.lay(2, i, HIGH);
        }
        CHECK.due("mean of great ones", x.mean(2), 1);
        CHECK.due("of 60 times HIGH", x.asked(), HIGH);
        x.row(3, 0);
        CHECK.finds("mean among none", x, NOUGHT, () -> x.mean(3));
        CHECK.finds("mean of none", x, NOTHING, () -> x.mean(4));
        for (int r : new int[] {-1, 6, LOW, HIGH}) {
            CHECK.refuses("mean(" + r + ")", x, TiedRow.BAD, () -> x.mean(r));
        }
    }

    private static void text() {
        TiedRow x = new TiedRow();
        CHECK.due("text(0, 120)", x.text(0, 120), 120);
        CHECK.due("text(3, 0)", x.text(3, 0), 0);
        CHECK.due("two texts", x.count(6), 2);
        CHECK.due("its last is a blank", x.put(0, 119, 65), 1032);
        CHECK.due("text anew", x.text(0, 120), 120);
        CHECK.due("its last is a blank again", x.put(0, 119, 65), 1032);
        for (int t : new int[] {-1, 4, LOW, HIGH}) {
            CHECK.refuses("text(" + t + ", -1)", x, TiedRow.BAD, () -> x.text(t, -1));
        }
        CHECK.refuses("text(0, 121)", x, TiedRow.BAD, () -> x.text(0, 121));
        CHECK.refuses("text(0, HIGH)", x, TiedRow.BAD, () -> x.text(0, HIGH));
        CHECK.finds("text(0, -1)", x, SIZE, () -> x.text(0, -1));
        CHECK.finds("text(0, LOW)", x, SIZE, () -> x.text(0, LOW));
    }

    private static void put() {
        TiedRow x = new TiedRow();
        x.text(1, 3);
        CHECK.due("put 127", x.put(1, 0, 127), 1032);
        CHECK.due("put 128", x.put(1, 0, 128), 1127);
        CHECK.due("put -1", x.put(1, 0, -1), 872);
        CHECK.due("put 256", x.put(1, 0, 256), 999);
        CHECK.due("put HIGH", x.put(1, 0, HIGH), 1000);
        CHECK.due("put LOW", x.put(1, 0, LOW), 999);
        CHECK.due("put 0", x.put(1, 0, 0), 1000);
        CHECK.due("its neighbour", x.put(1, 1, 5), 1032);
        for (int t : new int[] {-1, 4, LOW, HIGH}) {
            CHECK.refuses("put(" + t + ")", x, TiedRow.BAD, () -> x.put(t, 9, 1));
        }
        CHECK.finds("put in none", x, NOTHING, () -> x.put(2, -1, 1));
        for (int i : new int[] {-1, 3, 120, LOW, HIGH}) {
            CHECK.finds("put at " + i, x, BEYOND, () -> x.put(1, i, 1));
        }
    }
}
