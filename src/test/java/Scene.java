import java.util.function.ToLongFunction;

/** Objects in states in which calls are refused, each of them made anew by the same calls. */
enum Scene {
    /** A new object. */
    NEW,
    /** ROWS, TEXTS, but no HOUSE. */
    PAPERS,
    /** A HOUSE without HOURS, without STEPS. */
    EMPTY,
    /** A HOUSE with STEPS: HOURS 0, 2 OPENED, 1 SENT BACK, 3 on the SHELF, 4 on its way. */
    LIVED,
    /** The same one at 40 STEPS. */
    FULL,
    /** HOURS 0 (at 12) and 1 (at 0) on the SHELF, two OPENED, DEED 0 DONE alone: others want something. */
    WANTING,
    /** The same one at 40 STEPS. */
    WANTING_AT_40,
    /** HOURS 0 and 1 on the SHELF, one OPENED: too early for a MEAL. */
    EARLY,
    /** The same one at 40 STEPS. */
    EARLY_AT_40;

    private static final String HOUSE = "le0 me10 se0 hA00 hM00 hH00 hC00 hN92";
    private static final String WANTS = "le0 de0 de11 dd0 se0 fe0 hM00 hA00 hB00 hC00";

    HoursByPost make() {
        HoursByPost x = new HoursByPost();
        if (this == NEW) {
            return x;
        }
        papers(x);
        if (this == WANTING || this == WANTING_AT_40) {
            want(x);
        }
        if (this == EARLY || this == EARLY_AT_40) {
            beEarly(x);
        }
        if (this == EMPTY) {
            Due.write(x, 3, "me0 le0");
            x.house(3);
            x.route(1, 7);
        }
        if (this == LIVED || this == FULL) {
            live(x);
        }
        if (this == FULL || this == WANTING_AT_40 || this == EARLY_AT_40) {
            for (int k = x.count(2); k < 40; k++) {
                x.day();
            }
        }
        return x;
    }

    /** ROW 0 is empty, 1 holds a pair, 2 holds 3 ints, 3 is as long as can be, 4 is missing. */
    private static void papers(HoursByPost x) {
        x.row(0, 0);
        Due.fill(x, 1, 3, -9);
        Due.fill(x, 2, 7, 99, -5);
        x.row(3, 40);
        x.lay(3, 39, -1);
        Due.fill(x, 5, 3, 24);
        Due.write(x, 0, HOUSE);
        Due.write(x, 1, "le0 x");
        x.at(4, 0);
        x.at(1, 9);
        x.mean(0);
        x.row(4, -1);
        x.at(2, 0);
    }

    private static void live(HoursByPost x) {
        x.house(0);
        x.route(1, 5);
        x.keep(2);
        x.day();
        x.odds(0);
        x.open(0, 0);
        x.keep(0);
        x.send(1);
        x.open(2, -9);
        x.mark(0, 1);
        x.day();
        x.deed(2, 0);
    }

    private static void want(HoursByPost x) {
        Due.write(x, 2, WANTS);
        x.house(2);
        x.day();
        x.open(2, 0);
        x.open(3, -9);
        x.keep(1);
    }

    private static void beEarly(HoursByPost x) {
        Due.write(x, 2, "le0 me0 hM00 hA00 hB00");
        x.house(2);
        x.day();
        x.open(2, 0);
        x.keep(1);
    }

    /** A call is refused, and nothing but finding() and findings() has changed; finding 0: no FINDING. */
    void refuses(Due due, String call, ToLongFunction<HoursByPost> made, int answer, int finding) {
        HoursByPost x = make();
        HoursByPost twin = make();
        String name = this + ": " + call;
        due.is(name, made.applyAsLong(x), answer);
        due.is(name + "; finding()", x.finding(), finding == 0 ? twin.finding() : finding);
        for (int f = 1; f <= 5; f++) {
            int more = f == finding ? 1 : 0;
            due.is(name + "; findings(" + f + ")", x.findings(f), twin.findings(f) + more);
        }
        due.same(name + "; what is told behind it", Picture.of(x), Picture.of(twin));
    }
}
