import java.util.function.IntFunction;
import java.util.function.ToLongFunction;

/**
 * Each refusal of each call: the answer, that nothing but finding() and findings() changes, that the
 * first of the document's order is answered where several fit, also for the least and greatest ints.
 */
public final class RefusedTest {
    private static final int BAD = -1, FULL = -2, FINDING = -3, STATE = -4;
    private static final int NOTHING = 1, BEYOND = 2, UNLIKE = 3, NOUGHT = 4, SIZE = 5;
    private static final int LEAST = Integer.MIN_VALUE, GREATEST = Integer.MAX_VALUE;
    private static final Scene[] ALL = {Scene.NEW, Scene.PAPERS, Scene.EMPTY, Scene.LIVED, Scene.FULL};
    private static final Scene[] HOUSELESS = {Scene.NEW, Scene.PAPERS};
    private static final Scene[] WITH_PAPERS = {Scene.PAPERS, Scene.EMPTY, Scene.LIVED, Scene.FULL};
    private static final Scene[] HOUSES = {Scene.EMPTY, Scene.LIVED, Scene.FULL};
    private static final Scene[] LIVED = {Scene.LIVED};
    private static final Scene[] AT_40 = {Scene.FULL};
    private static final Due due = new Due();

    public static void main(String[] args) {
        rowAndText();
        layAndAt();
        tearMeanFault();
        copyBad();
        copyFindings();
        put();
        house();
        deedAndHour();
        mark();
        route();
        day();
        open();
        openAtForty();
        openForWhatCannotBe();
        send();
        undo();
        shelfKeepOn();
        whatCanBe();
        run();
        orders();
        diaries();
        stolenOddsLots();
        told();
        due.end();
    }

    private static void refused(Scene[] scenes, String call, ToLongFunction<HoursByPost> made, int answer) {
        for (Scene scene : scenes) {
            scene.refuses(due, call, made, answer, 0);
        }
    }

    private static void found(Scene[] scenes, String call, ToLongFunction<HoursByPost> made, int finding) {
        for (Scene scene : scenes) {
            scene.refuses(due, call, made, FINDING, finding);
        }
    }

    /** BAD for each number just out of 0 .. last, and for the least and greatest ints. */
    private static void badOutside(Scene[] scenes, String call, int last, IntFunction<ToLongFunction<HoursByPost>> made) {
        for (int v : new int[] {LEAST, -1, last + 1, GREATEST}) {
            refused(scenes, call + " of " + v, made.apply(v), BAD);
        }
    }

    private static void rowAndText() {
        badOutside(ALL, "row(.., 1)", 5, r -> x -> x.row(r, 1));
        badOutside(ALL, "row(.., -1), BAD ahead of SIZE", 5, r -> x -> x.row(r, -1));
        badOutside(ALL, "row(.., 41)", 5, r -> x -> x.row(r, 41));
        badOutside(ALL, "text(.., 1)", 3, t -> x -> x.text(t, 1));
        badOutside(ALL, "text(.., -1), BAD ahead of SIZE", 3, t -> x -> x.text(t, -1));
        badOutside(ALL, "text(.., 81)", 3, t -> x -> x.text(t, 81));
        for (int n : new int[] {41, GREATEST}) {
            refused(ALL, "row(1, " + n + ")", x -> x.row(1, n), BAD);
            refused(ALL, "row(4, " + n + "), missing", x -> x.row(4, n), BAD);
        }
        for (int n : new int[] {81, GREATEST}) {
            refused(ALL, "text(0, " + n + ")", x -> x.text(0, n), BAD);
            refused(ALL, "text(2, " + n + "), missing", x -> x.text(2, n), BAD);
        }
        for (int n : new int[] {LEAST, -1}) {
            found(ALL, "row(1, " + n + ")", x -> x.row(1, n), SIZE);
            found(ALL, "row(4, " + n + "), missing", x -> x.row(4, n), SIZE);
            found(ALL, "text(0, " + n + ")", x -> x.text(0, n), SIZE);
            found(ALL, "text(2, " + n + "), missing", x -> x.text(2, n), SIZE);
        }
    }

    private static void layAndAt() {
        badOutside(ALL, "lay(.., 0, 5)", 5, r -> x -> x.lay(r, 0, 5));
        badOutside(ALL, "at(.., 0)", 5, r -> x -> x.at(r, 0));
        badOutside(ALL, "lay(.., -1, 5), BAD ahead of BEYOND", 5, r -> x -> x.lay(r, -1, 5));
        badOutside(ALL, "at(.., -1), BAD ahead of BEYOND", 5, r -> x -> x.at(r, -1));
        for (int i : new int[] {LEAST, -1, 0, 39, 40, GREATEST}) {
            found(ALL, "lay(4, " + i + ", 5), NOTHING ahead of BEYOND", x -> x.lay(4, i, 5), NOTHING);
            found(ALL, "at(4, " + i + "), NOTHING ahead of BEYOND", x -> x.at(4, i), NOTHING);
        }
        for (int i : new int[] {LEAST, -1, 2, 3, GREATEST}) {
            found(WITH_PAPERS, "lay(1, " + i + ", 5)", x -> x.lay(1, i, 5), BEYOND);
            found(WITH_PAPERS, "at(1, " + i + ")", x -> x.at(1, i), BEYOND);
        }
        for (int i : new int[] {LEAST, -1, 0, 1, GREATEST}) {
            found(WITH_PAPERS, "lay(0, " + i + ", 5) of an empty ROW", x -> x.lay(0, i, 5), BEYOND);
            found(WITH_PAPERS, "at(0, " + i + ") of an empty ROW", x -> x.at(0, i), BEYOND);
        }
        for (int i : new int[] {LEAST, -1, 40, GREATEST}) {
            found(WITH_PAPERS, "lay(3, " + i + ", 5) of a ROW of 40", x -> x.lay(3, i, 5), BEYOND);
            found(WITH_PAPERS, "at(3, " + i + ") of a ROW of 40", x -> x.at(3, i), BEYOND);
        }
    }

    private static void tearMeanFault() {
        badOutside(ALL, "tear(..)", 5, r -> x -> x.tear(r));
        found(ALL, "tear(4)", x -> x.tear(4), NOTHING);
        badOutside(ALL, "mean(..)", 5, r -> x -> x.mean(r));
        found(ALL, "mean(4)", x -> x.mean(4), NOTHING);
        found(WITH_PAPERS, "mean(0) of an empty ROW", x -> x.mean(0), NOUGHT);
        badOutside(ALL, "fault(..)", 3, t -> x -> x.fault(t));
        found(ALL, "fault(2)", x -> x.fault(2), NOTHING);
    }

    private static void copyBad() {
        badOutside(ALL, "copy(.., 0, 1, 0, 1)", 5, r -> x -> x.copy(r, 0, 1, 0, 1));
        badOutside(ALL, "copy(1, 0, .., 0, 1)", 5, to -> x -> x.copy(1, 0, to, 0, 1));
        badOutside(ALL, "copy(.., 0, 1, 0, -1), BAD ahead of SIZE", 5, r -> x -> x.copy(r, 0, 1, 0, -1));
        badOutside(ALL, "copy(1, 0, .., 0, -1), BAD ahead of SIZE", 5, to -> x -> x.copy(1, 0, to, 0, -1));
        badOutside(ALL, "copy(4, 0, .., 0, 1), BAD ahead of NOTHING", 5, to -> x -> x.copy(4, 0, to, 0, 1));
        badOutside(ALL, "copy(.., 0, 4, 0, 1), BAD ahead of NOTHING", 5, r -> x -> x.copy(r, 0, 4, 0, 1));
        badOutside(ALL, "copy(1, 9, .., 0, 1), BAD ahead of BEYOND", 5, to -> x -> x.copy(1, 9, to, 0, 1));
        badOutside(ALL, "copy(.., 0, 1, 9, 1), BAD ahead of BEYOND", 5, r -> x -> x.copy(r, 0, 1, 9, 1));
        badOutside(ALL, "copy(.., 0, .., 0, 0), both BAD", 5, r -> x -> x.copy(r, 0, r, 0, 0));
    }

    private static void copyFindings() {
        for (int n : new int[] {LEAST, -1}) {
            found(WITH_PAPERS, "copy(1, 0, 2, 0, " + n + ")", x -> x.copy(1, 0, 2, 0, n), SIZE);
            found(ALL, "copy(4, 0, 1, 0, " + n + "), SIZE ahead of NOTHING", x -> x.copy(4, 0, 1, 0, n), SIZE);
            found(ALL, "copy(1, 0, 4, 0, " + n + "), SIZE ahead of NOTHING", x -> x.copy(1, 0, 4, 0, n), SIZE);
            found(ALL, "copy(1, 9, 2, -1, " + n + "), SIZE ahead of BEYOND", x -> x.copy(1, 9, 2, -1, n), SIZE);
        }
        for (int n : new int[] {0, 1, GREATEST}) {
            found(ALL, "copy(4, 0, 1, 0, " + n + "), from", x -> x.copy(4, 0, 1, 0, n), NOTHING);
            found(ALL, "copy(1, 0, 4, 0, " + n + "), to", x -> x.copy(1, 0, 4, 0, n), NOTHING);
            found(ALL, "copy(4, 0, 4, 0, " + n + "), both", x -> x.copy(4, 0, 4, 0, n), NOTHING);
            found(ALL, "copy(4, -1, 1, 9, " + n + "), NOTHING ahead of BEYOND", x -> x.copy(4, -1, 1, 9, n), NOTHING);
        }
        for (int i : new int[] {LEAST, -1, 2, GREATEST}) {
            found(WITH_PAPERS, "copy(1, " + i + ", 3, 0, 1), from", x -> x.copy(1, i, 3, 0, 1), BEYOND);
            found(WITH_PAPERS, "copy(3, 0, 1, " + i + ", 1), to", x -> x.copy(3, 0, 1, i, 1), BEYOND);
        }
        for (int n : new int[] {3, 40, 41, GREATEST}) {
            found(WITH_PAPERS, "copy(1, 0, 3, 0, " + n + "), from", x -> x.copy(1, 0, 3, 0, n), BEYOND);
            found(WITH_PAPERS, "copy(3, 0, 1, 0, " + n + "), to", x -> x.copy(3, 0, 1, 0, n), BEYOND);
        }
        found(WITH_PAPERS, "copy(3, 1, 3, 0, 40)", x -> x.copy(3, 1, 3, 0, 40), BEYOND);
        found(WITH_PAPERS, "copy(3, 0, 3, 1, 40)", x -> x.copy(3, 0, 3, 1, 40), BEYOND);
        found(WITH_PAPERS, "copy(0, 0, 1, 0, 1), from an empty ROW", x -> x.copy(0, 0, 1, 0, 1), BEYOND);
        found(WITH_PAPERS, "copy(1, 0, 0, 0, 1), to an empty ROW", x -> x.copy(1, 0, 0, 0, 1), BEYOND);
        found(WITH_PAPERS, "copy of GREATEST from GREATEST",
            x -> x.copy(1, GREATEST, 3, GREATEST, GREATEST), BEYOND);
        for (int i : new int[] {LEAST, -1, 3, GREATEST}) {
            found(WITH_PAPERS, "copy(1, " + i + ", 3, 0, 0) of none", x -> x.copy(1, i, 3, 0, 0), BEYOND);
            found(WITH_PAPERS, "copy(3, 0, 1, " + i + ", 0) of none", x -> x.copy(3, 0, 1, i, 0), BEYOND);
        }
    }

    private static void put() {
        badOutside(ALL, "put(.., 0, 5)", 3, t -> x -> x.put(t, 0, 5));
        badOutside(ALL, "put(.., -1, 5), BAD ahead of BEYOND", 3, t -> x -> x.put(t, -1, 5));
        for (int i : new int[] {LEAST, -1, 0, 79, 80, GREATEST}) {
            found(ALL, "put(2, " + i + ", 5), NOTHING ahead of BEYOND", x -> x.put(2, i, 5), NOTHING);
        }
        for (int i : new int[] {LEAST, -1, 5, 6, GREATEST}) {
            found(WITH_PAPERS, "put(1, " + i + ", 5)", x -> x.put(1, i, 5), BEYOND);
        }
    }

    private static void house() {
        badOutside(ALL, "house(..)", 3, t -> x -> x.house(t));
        found(ALL, "house(2)", x -> x.house(2), NOTHING);
        refused(WITH_PAPERS, "house(1), a FAULT", x -> x.house(1), STATE);
    }

    private static void deedAndHour() {
        badOutside(HOUSELESS, "deed(.., 0)", -1, i -> x -> x.deed(i, 0));
        badOutside(HOUSELESS, "hour(.., 0)", -1, h -> x -> x.hour(h, 0));
        badOutside(new Scene[] {Scene.EMPTY}, "deed(.., 0)", 1, i -> x -> x.deed(i, 0));
        badOutside(new Scene[] {Scene.EMPTY}, "hour(.., 0)", -1, h -> x -> x.hour(h, 0));
        for (int what = 0; what <= 4; what++) {
            int w = what;
            badOutside(LIVED, "deed(.., " + what + ")", 2, i -> x -> x.deed(i, w));
            badOutside(LIVED, "hour(.., " + what + ")", 4, h -> x -> x.hour(h, w));
        }
        badOutside(HOUSES, "deed(0, ..)", 4, what -> x -> x.deed(0, what));
        badOutside(LIVED, "hour(0, ..)", 4, what -> x -> x.hour(0, what));
        badOutside(ALL, "deed(.., ..), both BAD", 6, v -> x -> x.deed(v, v));
        badOutside(ALL, "hour(.., ..), both BAD", 7, v -> x -> x.hour(v, v));
    }

    private static void mark() {
        for (int kind = 1; kind <= 5; kind++) {
            int k = kind;
            badOutside(HOUSELESS, "mark(.., " + kind + ")", -1, i -> x -> x.mark(i, k));
            badOutside(LIVED, "mark(.., " + kind + ")", 2, i -> x -> x.mark(i, k));
        }
        for (int i = 0; i <= 2; i++) {
            int deed = i;
            badOutside(LIVED, "mark(" + i + ", ..)", 5, kind -> x -> x.mark(deed, kind));
            refused(LIVED, "mark(" + i + ", 0)", x -> x.mark(deed, 0), BAD);
        }
        refused(HOUSELESS, "mark(0, 0)", x -> x.mark(0, 0), BAD);
        int[][] unlike = {{0, 1}, {0, 2}, {0, 4}, {0, 5}, {1, 2}, {1, 3}, {1, 4}, {1, 5}, {2, 1}, {2, 3}, {2, 4}, {2, 5}};
        for (int[] pair : unlike) {
            found(LIVED, "mark(" + pair[0] + ", " + pair[1] + ")", x -> x.mark(pair[0], pair[1]), UNLIKE);
        }
    }

    private static void route() {
        badOutside(ALL, "route(.., 3)", 2, k -> x -> x.route(k, 3));
        badOutside(ALL, "route(0, ..)", 9, v -> x -> x.route(0, v));
        badOutside(ALL, "route(.., ..), both BAD", 9, v -> x -> x.route(v, v));
        for (int k = 0; k <= 2; k++) {
            int route = k;
            refused(LIVED, "route(" + k + ", 3) behind STEPS", x -> x.route(route, 3), STATE);
            refused(AT_40, "route(" + k + ", 3) at 40 STEPS", x -> x.route(route, 3), STATE);
        }
    }

    private static void day() {
        refused(HOUSELESS, "day() without DEEDS", HoursByPost::day, STATE);
        refused(AT_40, "day() at 40 STEPS", HoursByPost::day, FULL);
    }

    private static void open() {
        badOutside(HOUSELESS, "open(.., NONE)", -1, h -> x -> x.open(h, -9));
        badOutside(new Scene[] {Scene.EMPTY}, "open(.., NONE)", -1, h -> x -> x.open(h, -9));
        badOutside(LIVED, "open(.., NONE)", 4, h -> x -> x.open(h, -9));
        badOutside(LIVED, "open(.., 1)", 4, h -> x -> x.open(h, 1));
        for (int deed : new int[] {LEAST, -10, -8, -1, 3, GREATEST}) {
            refused(LIVED, "open(3, " + deed + ")", x -> x.open(3, deed), BAD);
            refused(LIVED, "open(0, " + deed + "), BAD ahead of STATE", x -> x.open(0, deed), BAD);
            refused(LIVED, "open(9, " + deed + "), both BAD", x -> x.open(9, deed), BAD);
        }
        for (int deed : new int[] {-9, 1, 2}) {
            refused(LIVED, "open(0, " + deed + "), OPENED", x -> x.open(0, deed), STATE);
            refused(LIVED, "open(2, " + deed + "), OPENED for none", x -> x.open(2, deed), STATE);
            refused(LIVED, "open(1, " + deed + "), SENT BACK", x -> x.open(1, deed), STATE);
            refused(LIVED, "open(4, " + deed + "), on its way", x -> x.open(4, deed), STATE);
        }
        refused(LIVED, "open(3, 0), DONE", x -> x.open(3, 0), STATE);
    }

    private static void openAtForty() {
        for (int deed : new int[] {-9, 1, 2}) {
            refused(AT_40, "open(3, " + deed + ")", x -> x.open(3, deed), FULL);
        }
        refused(AT_40, "open(3, 0), STATE ahead of FULL: DONE", x -> x.open(3, 0), STATE);
        refused(AT_40, "open(4, 2), STATE ahead of FULL: a SLEEP at 13", x -> x.open(4, 2), STATE);
        refused(AT_40, "open(0, -9), STATE ahead of FULL: OPENED", x -> x.open(0, -9), STATE);
        refused(AT_40, "open(1, -9), STATE ahead of FULL: SENT BACK", x -> x.open(1, -9), STATE);
        badOutside(AT_40, "open(.., -9), BAD ahead of FULL", 4, h -> x -> x.open(h, -9));
        badOutside(AT_40, "open(3, ..), BAD ahead of FULL", 2, deed -> x -> x.open(3, deed));
    }

    /** Each reason for which a DEED CAN'T BE in an HOUR of the SHELF: also at 40 STEPS, for FULL is last. */
    private static void openForWhatCannotBe() {
        Scene[] wanting = {Scene.WANTING, Scene.WANTING_AT_40};
        Scene[] early = {Scene.EARLY, Scene.EARLY_AT_40};
        refused(wanting, "open(0, 0), DONE", x -> x.open(0, 0), STATE);
        refused(wanting, "open(0, 2), what it NEEDS is not DONE", x -> x.open(0, 2), STATE);
        refused(wanting, "open(1, 3), not its LIGHT", x -> x.open(1, 3), STATE);
        refused(wanting, "open(0, 4), a SLEEP at 12", x -> x.open(0, 4), STATE);
        refused(wanting, "open(0, 5), a FEAST with 1 DEED", x -> x.open(0, 5), STATE);
        refused(early, "open(0, 1), a MEAL behind 1 HOUR", x -> x.open(0, 1), STATE);
        for (int deed : new int[] {-9, 1, 3}) {
            refused(new Scene[] {Scene.WANTING_AT_40}, "open(0, " + deed + ")", x -> x.open(0, deed), FULL);
        }
        refused(new Scene[] {Scene.EARLY_AT_40}, "open(1, NONE)", x -> x.open(1, -9), FULL);
        due.is("WANTING: open(0, 3), its LIGHT", Scene.WANTING.make().open(0, 3), 1 + 8);
        due.is("WANTING: open(1, 4), a SLEEP at 0", Scene.WANTING.make().open(1, 4), 1 + 16);
    }

    private static void send() {
        badOutside(HOUSELESS, "send(..)", -1, h -> x -> x.send(h));
        badOutside(new Scene[] {Scene.EMPTY}, "send(..)", -1, h -> x -> x.send(h));
        badOutside(LIVED, "send(..)", 4, h -> x -> x.send(h));
        badOutside(AT_40, "send(..), BAD ahead of FULL", 4, h -> x -> x.send(h));
        refused(LIVED, "send(0), OPENED", x -> x.send(0), STATE);
        refused(LIVED, "send(2), OPENED for none", x -> x.send(2), STATE);
        refused(LIVED, "send(1), SENT BACK", x -> x.send(1), STATE);
        refused(LIVED, "send(4), on its way", x -> x.send(4), STATE);
        refused(AT_40, "send(0), STATE ahead of FULL: OPENED", x -> x.send(0), STATE);
        refused(AT_40, "send(1), STATE ahead of FULL: SENT BACK", x -> x.send(1), STATE);
        refused(AT_40, "send(3)", x -> x.send(3), FULL);
        refused(AT_40, "send(4)", x -> x.send(4), FULL);
    }

    private static void undo() {
        badOutside(HOUSELESS, "undo(..)", 0, n -> x -> x.undo(n));
        badOutside(new Scene[] {Scene.EMPTY}, "undo(..)", 0, n -> x -> x.undo(n));
        badOutside(LIVED, "undo(..)", 5, n -> x -> x.undo(n));
        badOutside(AT_40, "undo(..)", 40, n -> x -> x.undo(n));
    }

    private static void shelfKeepOn() {
        refused(HOUSELESS, "shelf()", HoursByPost::shelf, STATE);
        badOutside(ALL, "keep(..), also BAD ahead of STATE", 2, k -> x -> x.keep(k));
        for (int k = 0; k <= 2; k++) {
            int place = k;
            refused(HOUSELESS, "keep(" + k + ")", x -> x.keep(place), STATE);
            found(HOUSELESS, "on(" + k + ")", x -> x.on(place), NOTHING);
        }
        badOutside(ALL, "on(..)", 2, k -> x -> x.on(k));
        found(ALL, "on(1)", x -> x.on(1), NOTHING);
    }

    private static void whatCanBe() {
        badOutside(HOUSELESS, "can(..)", -1, h -> x -> x.can(h));
        badOutside(new Scene[] {Scene.EMPTY}, "can(..)", -1, h -> x -> x.can(h));
        badOutside(LIVED, "can(..)", 4, h -> x -> x.can(h));
        badOutside(HOUSELESS, "why(.., ..)", -1, v -> x -> x.why(v, v));
        badOutside(new Scene[] {Scene.EMPTY}, "why(0, ..)", -1, h -> x -> x.why(0, h));
        badOutside(LIVED, "why(.., 0)", 2, i -> x -> x.why(i, 0));
        badOutside(LIVED, "why(0, ..)", 4, h -> x -> x.why(0, h));
        badOutside(HOUSELESS, "opens(..)", -1, i -> x -> x.opens(i));
        badOutside(LIVED, "opens(..)", 2, i -> x -> x.opens(i));
        refused(HOUSELESS, "late()", HoursByPost::late, STATE);
    }

    private static void run() {
        badOutside(ALL, "run(..), also BAD ahead of STATE", 5, r -> x -> x.run(r));
        for (int r = 0; r <= 5; r++) {
            int row = r;
            refused(HOUSELESS, "run(" + r + "), STATE ahead of NOTHING, SIZE, UNLIKE", x -> x.run(row), STATE);
        }
        found(HOUSES, "run(4)", x -> x.run(4), NOTHING);
        found(HOUSES, "run(2) of 3 ints, SIZE ahead of UNLIKE", x -> x.run(2), SIZE);
        found(HOUSES, "run(3) of 40 ints, SIZE ahead of UNLIKE", x -> x.run(3), SIZE);
        found(HOUSES, "run(5), no DEED", x -> x.run(5), UNLIKE);
        found(new Scene[] {Scene.EMPTY}, "run(1), no HOUR", x -> x.run(1), UNLIKE);
    }

    private static void orders() {
        refused(HOUSELESS, "most()", HoursByPost::most, STATE);
        refused(HOUSELESS, "shut()", HoursByPost::shut, STATE);
        badOutside(HOUSELESS, "fewest(..)", -1, i -> x -> x.fewest(i));
        badOutside(LIVED, "fewest(..)", 2, i -> x -> x.fewest(i));
        badOutside(HOUSELESS, "order(.., 1)", -1, i -> x -> x.order(i, 1));
        badOutside(LIVED, "order(.., 1)", 2, i -> x -> x.order(i, 1));
        badOutside(LIVED, "order(0, ..), DONE", 5, r -> x -> x.order(0, r));
        badOutside(LIVED, "order(1, ..)", 5, r -> x -> x.order(1, r));
        badOutside(LIVED, "order(.., ..), both BAD", 5, v -> x -> x.order(v, v));
        badOutside(new Scene[] {Scene.EMPTY}, "order(0, ..), BAD ahead of NONE", 5, r -> x -> x.order(0, r));
        badOutside(HOUSELESS, "waits(..)", -1, i -> x -> x.waits(i));
        badOutside(LIVED, "waits(..)", 2, i -> x -> x.waits(i));
    }

    private static void diaries() {
        badOutside(ALL, "diary(..), also BAD ahead of STATE", 5, r -> x -> x.diary(r));
        badOutside(ALL, "forged(..), also BAD ahead of STATE", 5, r -> x -> x.forged(r));
        for (int r = 0; r <= 5; r++) {
            int row = r;
            refused(HOUSELESS, "diary(" + r + "), STATE ahead of NOTHING, SIZE, UNLIKE", x -> x.diary(row), STATE);
            refused(HOUSELESS, "forged(" + r + "), STATE ahead of NOTHING, SIZE, UNLIKE", x -> x.forged(row), STATE);
        }
        found(HOUSES, "diary(4)", x -> x.diary(4), NOTHING);
        found(HOUSES, "forged(4)", x -> x.forged(4), NOTHING);
        found(HOUSES, "diary(3) of 40 ints, SIZE ahead of UNLIKE", x -> x.diary(3), SIZE);
        found(HOUSES, "forged(3) of 40 ints, SIZE ahead of UNLIKE", x -> x.forged(3), SIZE);
        for (int r : new int[] {1, 2, 5}) {
            found(HOUSES, "diary(" + r + ")", x -> x.diary(r), UNLIKE);
            found(HOUSES, "forged(" + r + ")", x -> x.forged(r), UNLIKE);
        }
    }

    private static void stolenOddsLots() {
        badOutside(ALL, "stolen(.., 0)", 7, n -> x -> x.stolen(n, 0));
        badOutside(ALL, "stolen(0, ..)", 20, day -> x -> x.stolen(0, day));
        badOutside(ALL, "stolen(.., ..), both BAD", 20, v -> x -> x.stolen(v, v));
        badOutside(HOUSELESS, "odds(..)", -1, i -> x -> x.odds(i));
        badOutside(LIVED, "odds(..)", 2, i -> x -> x.odds(i));
        badOutside(ALL, "lots(.., 1), also BAD ahead of STATE", 20, n -> x -> x.lots(n, 1));
        badOutside(ALL, "lots(1, ..), also BAD ahead of STATE", GREATEST - 1, seed -> x -> x.lots(1, seed));
        refused(ALL, "lots(0, 1)", x -> x.lots(0, 1), BAD);
        refused(ALL, "lots(1, 0)", x -> x.lots(1, 0), BAD);
        refused(ALL, "lots(0, 0)", x -> x.lots(0, 0), BAD);
        refused(HOUSELESS, "lots(1, 1)", x -> x.lots(1, 1), STATE);
        refused(HOUSELESS, "lots(20, 2147483646)", x -> x.lots(20, 2147483646), STATE);
    }

    private static void told() {
        badOutside(ALL, "count(..)", 8, what -> x -> x.count(what));
        badOutside(ALL, "findings(..)", 5, f -> x -> x.findings(f));
        refused(ALL, "findings(0)", x -> x.findings(0), BAD);
    }
}
