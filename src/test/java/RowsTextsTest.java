/** Promises 1 to 9: a new object, ROWS, TEXTS. */
public final class RowsTextsTest {
    private static final int NOTHING = 1, BEYOND = 2, NOUGHT = 4, SIZE = 5;
    private static final Due due = new Due();

    public static void main(String[] args) {
        newObject();
        row();
        layAndAt();
        tear();
        copy();
        mean();
        text();
        put();
        due.end();
    }

    private static void newObject() {
        HoursByPost x = new HoursByPost();
        for (int what = 0; what <= 8; what++) {
            due.is("new: count(" + what + ")", x.count(what), 0);
        }
        due.is("new: asked()", x.asked(), 0);
        due.is("new: upper()", x.upper(), 0);
        due.is("new: lower()", x.lower(), 1);
        due.is("new: finding()", x.finding(), 0);
        due.is("new: findings(5)", x.findings(5), 0);
        long h = 17;
        long[] values = {0, 0, 0, 0, 0, 0, 0, 0, 0, 0, 1, 2, 4, -1, -1, -1, -1, -1, -1, -1, -1, -1, -1, -1, -1, -1};
        for (long v : values) {
            h = 31 * h + v;
        }
        due.is("new: digest()", x.digest(), h);
    }

    private static void row() {
        HoursByPost x = new HoursByPost();
        due.is("row(0, 40)", x.row(0, 40), 40);
        due.is("row(5, 0)", x.row(5, 0), 0);
        due.is("row(6, 0)", x.row(6, 0), -1);
        due.is("row(-1, 0)", x.row(-1, 0), -1);
        due.is("row(0, 41)", x.row(0, 41), -1);
        due.is("row(6, -1)", x.row(6, -1), -1);
        due.finds(x, "row(1, -1)", 0, x.row(1, -1), SIZE);
        due.finds(x, "row(1, least)", 1, x.row(1, Integer.MIN_VALUE), SIZE);
        due.is("count(6)", x.count(6), 2);
        x.lay(0, 39, 7);
        due.is("row(0, 40) anew", x.row(0, 40), 40);
        due.tells(x, "at(0, 39)", x.at(0, 39), 1, 0);
        x.lay(0, 1, 7);
        x.row(0, 1);
        x.row(0, 2);
        due.tells(x, "at(0, 1) of a longer row", x.at(0, 1), 1, 0);
    }

    private static void layAndAt() {
        HoursByPost x = new HoursByPost();
        due.finds(x, "lay, missing", 0, x.lay(0, 0, 1), NOTHING);
        due.finds(x, "at, missing", 1, x.at(0, 0), NOTHING);
        due.is("lay(6, ..)", x.lay(6, 0, 1), -1);
        due.is("lay(-1, ..)", x.lay(-1, 0, 1), -1);
        due.is("at(6, ..)", x.at(6, 0), -1);
        due.is("at(-1, ..)", x.at(-1, 0), -1);
        x.row(2, 3);
        due.tells(x, "lay(2, 0, least)", x.lay(2, 0, Integer.MIN_VALUE), 1, 0);
        due.tells(x, "lay(2, 0, 5)", x.lay(2, 0, 5), 1, Integer.MIN_VALUE);
        due.tells(x, "at(2, 0)", x.at(2, 0), 1, 5);
        due.tells(x, "lay(2, 2, -9)", x.lay(2, 2, -9), 1, 0);
        due.tells(x, "at(2, 2)", x.at(2, 2), 1, -9);
        due.finds(x, "lay(2, 3, 1)", 0, x.lay(2, 3, 1), BEYOND);
        due.finds(x, "lay(2, -1, 1)", 1, x.lay(2, -1, 1), BEYOND);
        due.finds(x, "at(2, 3)", 2, x.at(2, 3), BEYOND);
        due.finds(x, "at(2, -1)", 3, x.at(2, -1), BEYOND);
        due.finds(x, "at(2, largest)", 4, x.at(2, Integer.MAX_VALUE), BEYOND);
        due.is("asked() behind refusals", x.asked(), -9);
    }

    private static void tear() {
        HoursByPost x = new HoursByPost();
        due.finds(x, "tear, missing", 0, x.tear(5), NOTHING);
        due.is("tear(6)", x.tear(6), -1);
        due.is("tear(-1)", x.tear(-1), -1);
        x.row(5, 1);
        due.is("tear(5)", x.tear(5), 1);
        due.is("count(6)", x.count(6), 0);
        due.finds(x, "tear(5) again", 1, x.tear(5), NOTHING);
        due.finds(x, "at(5, 0)", 2, x.at(5, 0), NOTHING);
    }

    private static void copy() {
        HoursByPost x = new HoursByPost();
        Due.fill(x, 0, 1, 2, 3, 4, 5);
        x.row(1, 3);
        due.is("copy to another", x.copy(0, 2, 1, 0, 3), 1);
        expectRow(x, "copied", 1, 3, 4, 5);
        due.is("copy up within", x.copy(0, 0, 0, 1, 4), 1);
        expectRow(x, "up", 0, 1, 1, 2, 3, 4);
        due.is("copy down within", x.copy(0, 1, 0, 0, 4), 1);
        expectRow(x, "down", 0, 1, 2, 3, 4, 4);
        due.is("copy of none at the end", x.copy(0, 5, 1, 3, 0), 1);
        due.finds(x, "copy of none beyond", 0, x.copy(0, 6, 1, 0, 0), BEYOND);
        due.finds(x, "copy to beyond", 1, x.copy(0, 0, 1, 1, 3), BEYOND);
        due.finds(x, "copy from beyond", 2, x.copy(0, 3, 1, 0, 3), BEYOND);
        due.finds(x, "copy from below", 3, x.copy(0, -1, 1, 0, 1), BEYOND);
        due.finds(x, "copy to below", 4, x.copy(0, 0, 1, -1, 1), BEYOND);
        due.finds(x, "copy of all too many", 5, x.copy(0, Integer.MAX_VALUE, 1, 0, Integer.MAX_VALUE), BEYOND);
        due.finds(x, "copy of fewer than none", 0, x.copy(0, 0, 1, 0, -1), SIZE);
        due.finds(x, "copy, SIZE ahead of NOTHING", 1, x.copy(4, 0, 1, 0, -1), SIZE);
        due.finds(x, "copy from missing", 0, x.copy(4, 0, 1, 0, 0), NOTHING);
        due.finds(x, "copy to missing, ahead of BEYOND", 1, x.copy(0, 9, 4, 0, 1), NOTHING);
        due.is("copy, BAD ahead of SIZE", x.copy(6, 0, 0, 0, -1), -1);
        due.is("copy to BAD", x.copy(0, 0, -1, 0, 1), -1);
        expectRow(x, "after refusals", 0, 1, 2, 3, 4, 4);
        expectRow(x, "after refusals", 1, 3, 4, 5);
    }

    private static void mean() {
        HoursByPost x = new HoursByPost();
        due.is("mean(6)", x.mean(6), -1);
        due.is("mean(-1)", x.mean(-1), -1);
        due.finds(x, "mean, missing", 0, x.mean(0), NOTHING);
        x.row(0, 0);
        due.finds(x, "mean of none", 0, x.mean(0), NOUGHT);
        Due.fill(x, 0, 1, 2, 4);
        due.tells(x, "mean of 1, 2, 4", x.mean(0), 1, 2);
        Due.fill(x, 0, -3, 0);
        due.tells(x, "mean of -3, 0", x.mean(0), 1, -1);
        Due.fill(x, 0, Integer.MAX_VALUE, Integer.MAX_VALUE, Integer.MAX_VALUE);
        due.tells(x, "mean of the largest", x.mean(0), 1, Integer.MAX_VALUE);
        x.row(0, 40);
        x.lay(0, 39, 81);
        due.tells(x, "mean of 40", x.mean(0), 1, 2);
        Due.fill(x, 0, Integer.MIN_VALUE, Integer.MIN_VALUE);
        due.tells(x, "mean of the least", x.mean(0), 1, Integer.MIN_VALUE);
    }

    private static void text() {
        HoursByPost x = new HoursByPost();
        due.is("text(3, 80)", x.text(3, 80), 80);
        due.is("text(0, 0)", x.text(0, 0), 0);
        due.is("text(4, 0)", x.text(4, 0), -1);
        due.is("text(-1, 0)", x.text(-1, 0), -1);
        due.is("text(0, 81)", x.text(0, 81), -1);
        due.is("text(4, -1)", x.text(4, -1), -1);
        due.finds(x, "text(1, -1)", 0, x.text(1, -1), SIZE);
        due.is("count(7)", x.count(7), 2);
        due.is("put(3, 79, 0)", x.put(3, 79, 0), 1032);
        x.text(3, 80);
        due.is("put(3, 79, 0) anew", x.put(3, 79, 0), 1032);
    }

    private static void put() {
        HoursByPost x = new HoursByPost();
        due.finds(x, "put, missing", 0, x.put(0, 0, 1), NOTHING);
        due.is("put(4, ..)", x.put(4, 0, 1), -1);
        due.is("put(-1, ..)", x.put(-1, 0, 1), -1);
        x.text(0, 2);
        due.finds(x, "put(0, 2, 1)", 0, x.put(0, 2, 1), BEYOND);
        due.finds(x, "put(0, -1, 1)", 1, x.put(0, -1, 1), BEYOND);
        due.is("put(0, 1, 127)", x.put(0, 1, 127), 1032);
        due.is("put(0, 1, 128)", x.put(0, 1, 128), 1127);
        due.is("put(0, 1, -1)", x.put(0, 1, -1), 872);
        due.is("put(0, 1, 256)", x.put(0, 1, 256), 999);
        due.is("put(0, 1, 0)", x.put(0, 1, 0), 1000);
        due.is("asked()", x.asked(), 0);
    }

    private static void expectRow(HoursByPost x, String what, int r, int... want) {
        for (int i = 0; i < want.length; i++) {
            due.tells(x, what + ": at(" + r + ", " + i + ")", x.at(r, i), 1, want[i]);
        }
    }
}
