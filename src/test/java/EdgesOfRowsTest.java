/** The edges that the document names of objects, ROWS and TEXTS (promises 1 to 9), a test for each sentence. */
public final class EdgesOfRowsTest {
    private static final int LEAST = Integer.MIN_VALUE, GREATEST = Integer.MAX_VALUE;
    private static final int NOTHING = 1, BEYOND = 2, UNLIKE = 3, NOUGHT = 4, SIZE = 5;
    private static final Due due = new Due();

    public static void main(String[] args) {
        usedFor512Calls();
        findingsOneToFive();
        sixRowsMissingAtFirst();
        fourTextsMissingAtFirst();
        rowOfEachSize();
        rowAnewHoldsNoughts();
        layFirstAndLastPlace();
        layTellsWhatItWas();
        layAnyInt();
        atFirstAndLastPlace();
        tearAndTearAgain();
        tearLeavesOthers();
        copyOfNone();
        copyOfAll();
        copyUpToTheEnd();
        copyWithinItself();
        copyToItsOwnPlace();
        meanIsCutTowardsNought();
        meanOfOneAndOfForty();
        meanOfLeastAndGreatest();
        meanOfNone();
        textOfEachSize();
        textAnewHoldsBlanks();
        putFirstAndLastPlace();
        putIsCutToAByte();
        putDoesNotTell();
        due.end();
    }

    private static void rowIs(HoursByPost x, String what, int r, int... want) {
        for (int i = 0; i < want.length; i++) {
            due.tells(x, what + ": at(" + r + ", " + i + ")", x.at(r, i), 1, want[i]);
        }
        due.is(what + ": at(" + r + ", " + want.length + ")", x.at(r, want.length), -3);
    }

    // "An object is used for at most 512 calls after it has been made"

    private static void usedFor512Calls() {
        HoursByPost x = new HoursByPost();
        for (int k = 0; k < 511; k++) {
            x.at(5, 0);
        }
        due.is("findings(1), the 512th call", x.findings(1), 511);
        HoursByPost y = Due.house("de0");
        for (int k = 0; k < 506; k++) {
            y.shelf();
        }
        due.is("day(), the 512th call", y.day(), 1);
    }

    // "FINDINGS: 1 NOTHING .. 5 SIZE"

    private static void findingsOneToFive() {
        HoursByPost x = Due.house("de0");
        due.finds(x, "NOTHING of a ROW", 0, x.at(0, 0), NOTHING);
        due.finds(x, "NOTHING of a TEXT", 1, x.fault(1), NOTHING);
        due.finds(x, "NOTHING of a kept HOUSE", 2, x.on(0), NOTHING);
        x.row(0, 1);
        x.row(1, 0);
        due.finds(x, "BEYOND of a ROW", 0, x.at(0, 1), BEYOND);
        due.finds(x, "BEYOND of a TEXT", 1, x.put(0, 3, 0), BEYOND);
        due.finds(x, "UNLIKE of a DEED", 0, x.mark(0, 1), UNLIKE);
        x.lay(0, 0, 24);
        due.finds(x, "UNLIKE of a number", 1, x.diary(0), UNLIKE);
        due.finds(x, "NOUGHT", 0, x.mean(1), NOUGHT);
        due.finds(x, "SIZE, fewer than none", 0, x.text(1, -1), SIZE);
        due.finds(x, "SIZE, not as many as due", 1, x.run(0), SIZE);
    }

    // "ROWS 0 .. 5 are rows of 0 to 40 ints, TEXTS 0 .. 3 rows of 0 to 80 bytes, or missing (at first)"

    private static void sixRowsMissingAtFirst() {
        HoursByPost x = new HoursByPost();
        for (int r = 0; r < 6; r++) {
            due.finds(x, "tear(" + r + ") at first", r, x.tear(r), NOTHING);
        }
        for (int r = 0; r < 6; r++) {
            due.is("row(" + r + ", " + r + ")", x.row(r, r), r);
            due.is("count(6)", x.count(6), r + 1);
        }
        for (int r = 1; r < 6; r++) {
            x.lay(r, r - 1, 10 * r);
        }
        for (int r = 1; r < 6; r++) {
            due.tells(x, "at(" + r + ", " + (r - 1) + "), its own", x.at(r, r - 1), 1, 10 * r);
        }
    }

    private static void fourTextsMissingAtFirst() {
        HoursByPost x = new HoursByPost();
        for (int t = 0; t < 4; t++) {
            due.finds(x, "fault(" + t + ") at first", t, x.fault(t), NOTHING);
        }
        for (int t = 0; t < 4; t++) {
            due.is("text(" + t + ", " + (t + 1) + ")", x.text(t, t + 1), t + 1);
            due.is("count(7)", x.count(7), t + 1);
            due.is("put(" + t + ", " + t + ", ..)", x.put(t, t, 10 * t), 1032);
        }
        for (int t = 0; t < 4; t++) {
            due.is("put(" + t + ", " + t + ", 0), its own", x.put(t, t, 0), 1000 + 10 * t);
        }
        due.is("count(6): TEXTS are no ROWS", x.count(6), 0);
    }

    // Promise 2: "A ROW is there with n ints 0: n. BAD: also n above 40; SIZE: below 0."

    private static void rowOfEachSize() {
        HoursByPost x = new HoursByPost();
        for (int n = 0; n <= 40; n++) {
            due.is("row(2, " + n + ")", x.row(2, n), n);
            due.is("the last place of " + n, x.at(2, n - 1), n == 0 ? -3 : 1);
            due.is("the place behind " + n, x.at(2, n), -3);
        }
        due.is("row(2, 41)", x.row(2, 41), -1);
        due.finds(x, "row(2, -1)", 0, x.row(2, -1), SIZE);
        due.is("still of 40", x.at(2, 39), 1);
    }

    private static void rowAnewHoldsNoughts() {
        HoursByPost x = new HoursByPost();
        x.row(0, 40);
        for (int i = 0; i < 40; i++) {
            x.lay(0, i, 100 + i);
        }
        x.row(0, 3);
        rowIs(x, "shorter anew", 0, 0, 0, 0);
        x.row(0, 40);
        for (int i = 0; i < 40; i++) {
            due.tells(x, "longer anew: at(0, " + i + ")", x.at(0, i), 1, 0);
        }
        x.lay(0, 7, 5);
        x.tear(0);
        x.row(0, 8);
        due.tells(x, "torn, anew: at(0, 7)", x.at(0, 7), 1, 0);
        due.is("count(6)", x.count(6), 1);
    }

    // Promise 3: "Place i of a ROW is v: what it was, told by asked(): 1."

    private static void layFirstAndLastPlace() {
        HoursByPost x = new HoursByPost();
        x.row(5, 40);
        due.tells(x, "lay(5, 0, 1)", x.lay(5, 0, 1), 1, 0);
        due.tells(x, "lay(5, 39, 2)", x.lay(5, 39, 2), 1, 0);
        due.finds(x, "lay(5, 40, 3)", 0, x.lay(5, 40, 3), BEYOND);
        due.finds(x, "lay(5, -1, 4)", 1, x.lay(5, -1, 4), BEYOND);
        due.tells(x, "at(5, 0)", x.at(5, 0), 1, 1);
        due.tells(x, "at(5, 1)", x.at(5, 1), 1, 0);
        due.tells(x, "at(5, 38)", x.at(5, 38), 1, 0);
        due.tells(x, "at(5, 39)", x.at(5, 39), 1, 2);
        x.row(4, 1);
        due.tells(x, "lay(4, 0, 9), the only place", x.lay(4, 0, 9), 1, 0);
        due.finds(x, "lay(4, 1, 9)", 2, x.lay(4, 1, 9), BEYOND);
    }

    private static void layTellsWhatItWas() {
        HoursByPost x = new HoursByPost();
        x.row(0, 2);
        x.lay(0, 1, 6);
        due.tells(x, "lay(0, 1, 7)", x.lay(0, 1, 7), 1, 6);
        due.tells(x, "lay(0, 1, 7) again", x.lay(0, 1, 7), 1, 7);
        due.tells(x, "lay(0, 0, 7)", x.lay(0, 0, 7), 1, 0);
    }

    private static void layAnyInt() {
        HoursByPost x = new HoursByPost();
        x.row(0, 1);
        int was = 0;
        for (int v : new int[] {LEAST, LEAST + 1, -1, 0, 1, GREATEST - 1, GREATEST}) {
            due.tells(x, "lay(0, 0, " + v + ")", x.lay(0, 0, v), 1, was);
            due.tells(x, "at(0, 0)", x.at(0, 0), 1, v);
            was = v;
        }
    }

    // Promise 4: "Place i of a ROW, told by asked(): 1."

    private static void atFirstAndLastPlace() {
        HoursByPost x = new HoursByPost();
        Due.fill(x, 1, 4, 5, 6);
        due.tells(x, "at(1, 0)", x.at(1, 0), 1, 4);
        due.tells(x, "at(1, 2)", x.at(1, 2), 1, 6);
        due.finds(x, "at(1, 3)", 0, x.at(1, 3), BEYOND);
        due.is("asked() stays", x.asked(), 6);
        due.finds(x, "at(1, -1)", 1, x.at(1, -1), BEYOND);
        due.is("asked() stays", x.asked(), 6);
    }

    // Promise 5: "A ROW is missing: 1."

    private static void tearAndTearAgain() {
        HoursByPost x = new HoursByPost();
        for (int n : new int[] {0, 1, 40}) {
            x.row(3, n);
            due.is("tear(3) of " + n, x.tear(3), 1);
            due.is("count(6)", x.count(6), 0);
            due.is("tear(3) again", x.tear(3), -3);
            due.is("finding()", x.finding(), NOTHING);
        }
    }

    private static void tearLeavesOthers() {
        HoursByPost x = new HoursByPost();
        for (int r = 0; r < 6; r++) {
            Due.fill(x, r, r, r);
        }
        x.text(3, 5);
        due.is("tear(3)", x.tear(3), 1);
        for (int r = 0; r < 6; r++) {
            due.is("at(" + r + ", 1)", x.at(r, 1), r == 3 ? -3 : 1);
        }
        due.is("count(7)", x.count(7), 1);
    }

    // Promise 6: "n places of a ROW, from one on, come to those of another one (perhaps itself) .. as if taken ahead"

    private static void copyOfNone() {
        HoursByPost x = new HoursByPost();
        Due.fill(x, 0, 1, 2, 3);
        x.row(1, 0);
        due.is("copy of none, first places", x.copy(0, 0, 0, 1, 0), 1);
        due.is("copy of none, the very end", x.copy(0, 3, 0, 3, 0), 1);
        due.is("copy of none between empty ROWS", x.copy(1, 0, 1, 0, 0), 1);
        due.finds(x, "copy of none, from behind the end", 0, x.copy(0, 4, 0, 0, 0), BEYOND);
        due.finds(x, "copy of none, to behind the end", 1, x.copy(0, 0, 1, 1, 0), BEYOND);
        rowIs(x, "behind copies of none", 0, 1, 2, 3);
    }

    private static void copyOfAll() {
        HoursByPost x = new HoursByPost();
        x.row(0, 40);
        x.row(1, 40);
        for (int i = 0; i < 40; i++) {
            x.lay(0, i, 1000 + i);
        }
        due.is("copy of 40", x.copy(0, 0, 1, 0, 40), 1);
        for (int i = 0; i < 40; i++) {
            due.tells(x, "at(1, " + i + ")", x.at(1, i), 1, 1000 + i);
        }
        due.finds(x, "copy of 41", 0, x.copy(0, 0, 1, 0, 41), BEYOND);
        due.is("copy of 39 from 1", x.copy(0, 1, 1, 0, 39), 1);
        due.finds(x, "copy of 40 from 1", 1, x.copy(0, 1, 1, 0, 40), BEYOND);
        due.is("copy of 39 to 1", x.copy(0, 0, 1, 1, 39), 1);
        due.finds(x, "copy of 40 to 1", 2, x.copy(0, 0, 1, 1, 40), BEYOND);
    }

    private static void copyUpToTheEnd() {
        HoursByPost x = new HoursByPost();
        Due.fill(x, 0, 1, 2, 3, 4);
        Due.fill(x, 1, 9, 9, 9);
        due.is("the last place to the last place", x.copy(0, 3, 1, 2, 1), 1);
        rowIs(x, "one copied", 1, 9, 9, 4);
        due.is("the last two to the last two", x.copy(0, 2, 1, 1, 2), 1);
        rowIs(x, "two copied", 1, 9, 3, 4);
        int before = x.findings(BEYOND);
        due.finds(x, "two from the last place", before, x.copy(0, 3, 1, 0, 2), BEYOND);
        due.finds(x, "two to the last place", before + 1, x.copy(0, 0, 1, 2, 2), BEYOND);
        rowIs(x, "refused", 1, 9, 3, 4);
        rowIs(x, "where it came from", 0, 1, 2, 3, 4);
    }

    private static void copyWithinItself() {
        HoursByPost x = new HoursByPost();
        Due.fill(x, 0, 1, 2, 3, 4, 5);
        due.is("up by one", x.copy(0, 0, 0, 1, 4), 1);
        rowIs(x, "up by one", 0, 1, 1, 2, 3, 4);
        Due.fill(x, 0, 1, 2, 3, 4, 5);
        due.is("down by one", x.copy(0, 1, 0, 0, 4), 1);
        rowIs(x, "down by one", 0, 2, 3, 4, 5, 5);
        Due.fill(x, 0, 1, 2, 3, 4, 5);
        due.is("up by two", x.copy(0, 0, 0, 2, 3), 1);
        rowIs(x, "up by two", 0, 1, 2, 1, 2, 3);
    }

    private static void copyToItsOwnPlace() {
        HoursByPost x = new HoursByPost();
        Due.fill(x, 0, 1, 2, 3);
        due.is("all to where they are", x.copy(0, 0, 0, 0, 3), 1);
        rowIs(x, "all to where they are", 0, 1, 2, 3);
    }

    // Promise 7: "The mean of a ROW's ints, cut, told by asked(): 1. BAD; NOTHING; NOUGHT."

    private static void meanIsCutTowardsNought() {
        int[][] rows = {{1, 2}, {-1, -2}, {0, 1}, {0, -1}, {1, 1, 0}, {-1, -1, 0}, {2, 2, 3}, {-2, -2, -3}, {5, -5}};
        int[] means = {1, -1, 0, 0, 0, 0, 2, -2, 0};
        HoursByPost x = new HoursByPost();
        for (int k = 0; k < rows.length; k++) {
            Due.fill(x, 0, rows[k]);
            due.tells(x, "mean of row " + k, x.mean(0), 1, means[k]);
        }
    }

    private static void meanOfOneAndOfForty() {
        HoursByPost x = new HoursByPost();
        Due.fill(x, 0, -7);
        due.tells(x, "mean of one", x.mean(0), 1, -7);
        x.row(0, 40);
        due.tells(x, "mean of 40 noughts", x.mean(0), 1, 0);
        x.lay(0, 39, 39);
        due.tells(x, "mean of 40, sum 39", x.mean(0), 1, 0);
        x.lay(0, 39, 40);
        due.tells(x, "mean of 40, sum 40", x.mean(0), 1, 1);
        x.lay(0, 0, -79);
        due.tells(x, "mean of 40, sum -39", x.mean(0), 1, 0);
        x.lay(0, 0, -80);
        due.tells(x, "mean of 40, sum -40", x.mean(0), 1, -1);
    }

    private static void meanOfLeastAndGreatest() {
        HoursByPost x = new HoursByPost();
        x.row(0, 40);
        x.row(1, 40);
        for (int i = 0; i < 40; i++) {
            x.lay(0, i, GREATEST);
            x.lay(1, i, LEAST);
        }
        due.tells(x, "mean of 40 greatest", x.mean(0), 1, GREATEST);
        due.tells(x, "mean of 40 least", x.mean(1), 1, LEAST);
        Due.fill(x, 2, GREATEST, LEAST);
        due.tells(x, "mean of greatest and least", x.mean(2), 1, 0);
        Due.fill(x, 2, GREATEST, GREATEST - 1);
        due.tells(x, "mean of the two greatest", x.mean(2), 1, GREATEST - 1);
        Due.fill(x, 2, LEAST, LEAST + 1);
        due.tells(x, "mean of the two least", x.mean(2), 1, LEAST + 1);
    }

    private static void meanOfNone() {
        HoursByPost x = new HoursByPost();
        due.finds(x, "mean of a missing ROW", 0, x.mean(0), NOTHING);
        x.row(0, 0);
        due.finds(x, "mean of an empty ROW", 0, x.mean(0), NOUGHT);
        x.row(0, 1);
        due.tells(x, "mean of a ROW of one", x.mean(0), 1, 0);
    }

    // Promise 8: "A TEXT is there with n blanks: n. BAD: also n above 80; SIZE: below 0."

    private static void textOfEachSize() {
        HoursByPost x = new HoursByPost();
        for (int n = 0; n <= 80; n++) {
            due.is("text(1, " + n + ")", x.text(1, n), n);
            due.is("fault of " + n + " blanks", x.fault(1), n);
            due.is("the last place of " + n, x.put(1, n - 1, 32), n == 0 ? -3 : 1032);
            due.is("the place behind " + n, x.put(1, n, 32), -3);
        }
        due.is("text(1, 81)", x.text(1, 81), -1);
        due.finds(x, "text(1, -1)", 0, x.text(1, -1), SIZE);
        due.is("still of 80", x.fault(1), 80);
    }

    private static void textAnewHoldsBlanks() {
        HoursByPost x = new HoursByPost();
        x.text(0, 80);
        for (int i = 0; i < 80; i++) {
            x.put(0, i, 'x');
        }
        x.text(0, 2);
        x.text(0, 80);
        for (int i = 0; i < 80; i++) {
            due.is("put(0, " + i + ", ..) anew", x.put(0, i, 'y'), 1032);
        }
        due.is("count(7)", x.count(7), 1);
    }

    // Promise 9: "Byte i of a TEXT is v, cut to a byte: what it was, and 1000 more."

    private static void putFirstAndLastPlace() {
        HoursByPost x = new HoursByPost();
        x.text(0, 80);
        due.is("put(0, 0, 1)", x.put(0, 0, 1), 1032);
        due.is("put(0, 79, 2)", x.put(0, 79, 2), 1032);
        due.finds(x, "put(0, 80, 3)", 0, x.put(0, 80, 3), BEYOND);
        due.finds(x, "put(0, -1, 4)", 1, x.put(0, -1, 4), BEYOND);
        due.is("put(0, 0, 0)", x.put(0, 0, 0), 1001);
        due.is("put(0, 1, 0)", x.put(0, 1, 0), 1032);
        due.is("put(0, 78, 0)", x.put(0, 78, 0), 1032);
        due.is("put(0, 79, 0)", x.put(0, 79, 0), 1002);
        x.text(0, 0);
        due.finds(x, "put(0, 0, 1) of an empty TEXT", 2, x.put(0, 0, 1), BEYOND);
    }

    private static void putIsCutToAByte() {
        int[] values = {0, 126, 127, 128, 129, 255, 256, 257, -1, -127, -128, -129, -256, GREATEST, LEAST, LEAST + 1, 32};
        int[] bytes = {0, 126, 127, -128, -127, -1, 0, 1, -1, -127, -128, 127, 0, -1, 0, 1, 32};
        HoursByPost x = new HoursByPost();
        x.text(2, 1);
        int was = 32;
        for (int k = 0; k < values.length; k++) {
            due.is("put(2, 0, " + values[k] + ")", x.put(2, 0, values[k]), 1000 + was);
            was = bytes[k];
        }
        due.is("put at the end", x.put(2, 0, 0), 1032);
    }

    private static void putDoesNotTell() {
        HoursByPost x = new HoursByPost();
        Due.fill(x, 0, 5);
        x.at(0, 0);
        x.text(0, 1);
        x.put(0, 0, 77);
        due.is("asked() behind put()", x.asked(), 5);
    }
}
