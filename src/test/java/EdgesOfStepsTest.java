/** The edges that the document names of STEPS and of what CAN BE (promises 16 to 26), a test for each sentence. */
public final class EdgesOfStepsTest {
    private static final int NONE = -9, NOTHING = 1;
    private static final Due due = new Due();

    public static void main(String[] args) {
        atFirst();
        onTheShelf();
        doneJustOnce();
        needsAreDone();
        mealsAndHoursSince();
        mealsBehindFeasts();
        sleepsInEachHour();
        napsInEachHour();
        feastsAndCompany();
        feastsAreMeals();
        fortySteps();
        everyKindOfStepCounts();
        dayTellsTheDay();
        openTellsAllThatIsDone();
        openForNone();
        sendTellsHowManyAreLeft();
        undoFromEachNumber();
        undoMakesRoom();
        shelfOfNoneAndOfSeven();
        keptInThreePlaces();
        keptAsItWas();
        keptAnew();
        onForgetsWhatCameBehind();
        canWhereverItIs();
        canOfNoneAndOfAll();
        whyTheFirst();
        whyTellsTheFirstNeed();
        opensNoneAndAll();
        lateWithoutHours();
        lateAndOnTheirWay();
        due.end();
    }

    private static void spend(HoursByPost x, int days) {
        for (int k = 0; k < days; k++) {
            x.day();
        }
    }

    // "The HOUSE is on DAY 0 at first; nothing is DONE, nothing OPENED."

    private static void atFirst() {
        HoursByPost x = Due.house("de0 me0 hA00 hB00");
        due.tells(x, "shelf()", x.shelf(), 0, 0);
        due.is("count(2)", x.count(2), 0);
        due.is("count(3)", x.count(3), 0);
        due.is("count(4)", x.count(4), 0);
        due.is("undo(0)", x.undo(0), 0);
        due.is("undo(1)", x.undo(1), -1);
    }

    // "On the SHELF are HOURS that COME by today, not OPENED, not SENT BACK."

    private static void onTheShelf() {
        HoursByPost x = Due.house("de0 hA00 hB00 hC00 hD10 hE20");
        x.route(0, 0);
        due.tells(x, "DAY 0: those of DAY 0", x.shelf(), 7, 0);
        x.day();
        due.tells(x, "DAY 1: one more", x.shelf(), 15, 1);
        x.open(0, -9);
        due.tells(x, "one is OPENED", x.shelf(), 14, 1);
        x.send(1);
        due.tells(x, "one is SENT BACK", x.shelf(), 12, 1);
        x.day();
        due.tells(x, "DAY 2: all have COME", x.shelf(), 28, 2);
        spend(x, 30);
        due.tells(x, "they stay", x.shelf(), 28, 32);
    }

    // "a told DEED is done, if it CAN BE in that: it is not DONE, all that it NEEDS is, .."

    private static void doneJustOnce() {
        HoursByPost x = Due.house("de0 hA00 hB00");
        x.day();
        due.is("open(0, 0)", x.open(0, 0), 1);
        due.is("open(1, 0), DONE", x.open(1, 0), -4);
        due.is("why(0, 1)", x.why(0, 1), 1);
        due.is("can(1)", x.can(1), 0);
        x.undo(1);
        due.is("open(1, 0), undone", x.open(1, 0), 1);
    }

    private static void needsAreDone() {
        HoursByPost x = Due.house("de0 de0 de0 de3012 de0 hA00 hB00 hC00 hD00 hE00");
        x.day();
        for (int k = 0; k < 3; k++) {
            due.is("why(3, 4), " + k + " of 3 DONE", x.why(3, 4), 2);
            due.is("open(4, 3), " + k + " of 3 DONE", x.open(4, 3), -4);
            x.open(k, k);
        }
        due.is("why(3, 4), all DONE", x.why(3, 4), 0);
        due.is("open(4, 3), all DONE", x.open(4, 3), 15);
        HoursByPost y = Due.house("de0 de10 de11 hA00 hB00 hC00");
        y.day();
        y.open(0, 0);
        due.is("what it NEEDS in the end is not enough", y.open(1, 2), -4);
        y.open(1, 1);
        due.is("what it NEEDS is DONE", y.open(2, 2), 7);
    }

    // "a MEAL (a FEAST, too) just if, since the last MEAL that was DONE (or from the first on), 2 HOURS at least .."

    private static void mealsAndHoursSince() {
        HoursByPost x = Due.house("me0 me0 le0 hA00 hB00 hC00 hD00 hE00 hF00 hG00");
        x.day();
        due.is("MEAL behind no HOUR", x.why(0, 0), 4);
        x.open(0, -9);
        due.is("MEAL behind 1 HOUR", x.why(0, 1), 4);
        x.day();
        x.send(6);
        due.is("a DAY and one SENT BACK are no HOURS", x.why(0, 1), 4);
        x.open(1, 2);
        due.is("MEAL behind 2 HOURS", x.why(0, 2), 0);
        x.open(2, -9);
        due.is("MEAL behind 3 HOURS", x.why(0, 3), 0);
        due.is("open(3, 0)", x.open(3, 0), 5);
        due.is("MEAL right behind a MEAL", x.why(1, 4), 4);
        x.open(4, -9);
        due.is("MEAL behind a MEAL and 1 HOUR", x.why(1, 5), 4);
        x.open(5, -9);
        due.is("MEAL behind a MEAL and 2 HOURS", x.why(1, 0), 0);
    }

    private static void mealsBehindFeasts() {
        HoursByPost x = Due.house("fe0 me0 le0 le0 hA00 hB00 hC00 hD00 hE00 hF00");
        x.day();
        x.open(0, 2);
        x.open(1, 3);
        due.is("a FEAST", x.open(2, 0), 13);
        due.is("MEAL right behind a FEAST", x.why(1, 3), 4);
        x.open(3, -9);
        due.is("MEAL behind a FEAST and 1 HOUR", x.why(1, 4), 4);
        x.open(4, -9);
        due.is("MEAL behind a FEAST and 2 HOURS", x.open(5, 1), 15);
    }

    // "a SLEEP (a NAP, too) just in HOURS from 20 to 5, but a NAP in any HOUR of the LIGHT that it wants"

    private static void sleepsInEachHour() {
        for (int time = 0; time <= 23; time++) {
            HoursByPost x = Due.house("se0 sn0 sd0 h" + (char) ('A' + time) + "00");
            boolean isTime = time >= 20 || time <= 5;
            boolean isDay = time >= 6 && time <= 17;
            x.day();
            due.is("SLEEP at " + time, x.why(0, 0), isTime ? 0 : 4);
            due.is("SLEEP by night at " + time, x.why(1, 0), isTime ? 0 : isDay ? 3 : 4);
            due.is("SLEEP by day at " + time, x.why(2, 0), isDay ? 4 : 3);
            due.is("open(0, 0) at " + time, x.open(0, 0), isTime ? 1 : -4);
        }
    }

    private static void napsInEachHour() {
        for (int time = 0; time <= 23; time++) {
            HoursByPost x = Due.house("pe0 pn0 pd0 h" + (char) ('A' + time) + "00");
            boolean isDay = time >= 6 && time <= 17;
            x.day();
            due.is("NAP at " + time, x.why(0, 0), 0);
            due.is("NAP by night at " + time, x.why(1, 0), isDay ? 3 : 0);
            due.is("NAP by day at " + time, x.why(2, 0), isDay ? 0 : 3);
            due.is("open(0, 0) at " + time, x.open(0, 0), 1);
        }
    }

    // "a FEAST just if 2 DEEDS at least are DONE that it does not NEED, too"

    private static void feastsAndCompany() {
        HoursByPost x = Due.house("fe0 le0 le0 le0 hA00 hB00 hC00 hD00 hE00 hF00");
        x.day();
        x.open(0, -9);
        x.open(1, -9);
        due.is("FEAST with none", x.open(5, 0), -4);
        x.open(2, 1);
        due.is("FEAST with 1", x.open(5, 0), -4);
        x.open(3, 2);
        due.is("FEAST with 2", x.why(0, 5), 0);
        x.open(4, 3);
        due.is("FEAST with 3", x.open(5, 0), 15);
        HoursByPost y = Due.house("le0 le0 le0 le0 fe3012 hA00 hB00 hC00 hD00 hE00");
        y.day();
        for (int k = 0; k < 4; k++) {
            y.open(k, k);
        }
        due.is("FEAST with 3 that it NEEDS and 1", y.why(4, 4), 4);
        HoursByPost z = Due.house("le0 le0 le0 le0 fe201 hA00 hB00 hC00 hD00 hE00");
        z.day();
        for (int k = 0; k < 4; k++) {
            z.open(k, k);
        }
        due.is("FEAST with 2 that it NEEDS and 2", z.open(4, 4), 31);
        HoursByPost w = Due.house("le0 le10 le0 fe11 hA00 hB00 hC00 hD00");
        w.day();
        for (int k = 0; k < 3; k++) {
            w.open(k, k);
        }
        due.is("what it NEEDS just in the end is company", w.open(3, 3), 15);
    }

    private static void feastsAreMeals() {
        HoursByPost x = Due.house("me0 fe0 le0 hA00 hB00 hC00 hD00 hE00 hF00");
        x.day();
        x.open(0, 2);
        x.open(1, -9);
        x.open(2, 0);
        due.is("FEAST right behind a MEAL", x.why(1, 3), 4);
        x.open(3, -9);
        due.is("FEAST behind a MEAL and 1 HOUR", x.why(1, 4), 4);
        x.open(4, -9);
        due.is("FEAST behind a MEAL and 2 HOURS", x.open(5, 1), 7);
    }

    // "DEEDS that are DONE, DAYS that go by, HOURS that are SENT BACK are STEPS 0, 1, .. (40 at most)."

    private static void fortySteps() {
        HoursByPost x = Due.house("de0 hA00 hB00");
        spend(x, 39);
        due.is("count(2)", x.count(2), 39);
        due.is("day(), the 40th STEP", x.day(), 40);
        due.is("day(), a 41st STEP", x.day(), -2);
        due.is("open, a 41st STEP", x.open(0, 0), -2);
        due.is("open for none, a 41st STEP", x.open(0, -9), -2);
        due.is("send, a 41st STEP", x.send(0), -2);
        x.undo(39);
        due.is("open, the 40th STEP", x.open(0, 0), 1);
        due.is("send, a 41st STEP", x.send(1), -2);
        x.undo(39);
        due.is("open for none, the 40th STEP", x.open(0, -9), 0);
        due.is("day(), a 41st STEP", x.day(), -2);
        x.undo(39);
        due.is("send, the 40th STEP", x.send(0), 1);
        due.is("open, a 41st STEP", x.open(1, 0), -2);
        due.is("count(2)", x.count(2), 40);
    }

    private static void everyKindOfStepCounts() {
        HoursByPost x = Due.house("de0 hA00 hB00 hC00");
        due.is("none", x.count(2), 0);
        x.day();
        due.is("a DAY", x.count(2), 1);
        x.open(0, 0);
        due.is("a DEED", x.count(2), 2);
        x.send(1);
        due.is("an HOUR SENT BACK", x.count(2), 3);
        x.open(2, -9);
        due.is("an HOUR OPENED for none", x.count(2), 4);
        due.is("count(3)", x.count(3), 1);
        due.is("count(4)", x.count(4), 2);
    }

    // Promise 16: "A DAY goes by: the DAY."

    private static void dayTellsTheDay() {
        HoursByPost x = Due.house("de0 hA00");
        due.is("day(), the first", x.day(), 1);
        x.open(0, 0);
        due.is("day(), behind a DEED", x.day(), 2);
        due.is("asked() behind day()", x.asked(), 0);
    }

    // Promise 17: "DEEDS that are DONE then (bits)", "(NONE: none)"

    private static void openTellsAllThatIsDone() {
        HoursByPost x = Due.house("de0 de0 de0 de0 de0 de0 hA00 hB00 hC00 hD00 hE00 hF00 hG00");
        x.day();
        int[] order = {5, 0, 4, 1, 3, 2};
        int done = 0;
        for (int k = 0; k < 6; k++) {
            done |= 1 << order[k];
            due.is("open(" + (6 - k) + ", " + order[k] + ")", x.open(6 - k, order[k]), done);
        }
        due.is("open(0, NONE)", x.open(0, -9), 63);
        due.is("count(3)", x.count(3), 6);
        due.is("count(4)", x.count(4), 7);
    }

    private static void openForNone() {
        HoursByPost x = Due.house("dd0 hA00");
        x.day();
        due.is("open(0, -8)", x.open(0, -8), -1);
        due.is("open(0, -10)", x.open(0, -10), -1);
        due.is("open(0, -9), whatever CAN BE", x.open(0, -9), 0);
        due.tells(x, "hour(0, 4)", x.hour(0, 4), 1, NONE);
        due.is("count(3)", x.count(3), 0);
    }

    // Promise 18: "An HOUR of the SHELF is SENT BACK: how many are on it then."

    private static void sendTellsHowManyAreLeft() {
        HoursByPost x = Due.house("de0 hA00 hB00 hC00 hD00 hE00 hF00 hG92");
        x.day();
        for (int h = 0; h < 6; h++) {
            due.is("send(" + h + ")", x.send(h), 5 - h);
        }
        due.is("send(6), on its way", x.send(6), -4);
        due.tells(x, "shelf()", x.shelf(), 0, 1);
        due.is("count(4)", x.count(4), 0);
    }

    // Promise 19: "STEPS from number n on are undone: how many. BAD."

    private static void undoFromEachNumber() {
        for (int n = 0; n <= 5; n++) {
            HoursByPost x = Due.house("le0 me0 hA00 hB00 hC00 hD00");
            HoursByPost less = Due.house("le0 me0 hA00 hB00 hC00 hD00");
            live(x, 5);
            live(less, n);
            due.is("undo(6)", x.undo(6), -1);
            due.is("undo(-1)", x.undo(-1), -1);
            due.is("undo(" + n + ")", x.undo(n), 5 - n);
            due.is("digest() behind undo(" + n + ")", x.digest(), less.digest());
            due.is("mark(1, 1) behind undo(" + n + ")", x.mark(1, 1), less.mark(1, 1));
            due.is("undo(" + n + ") again", x.undo(n), 0);
            due.is("undo(" + (n + 1) + ")", x.undo(n + 1), -1);
        }
    }

    private static void live(HoursByPost x, int steps) {
        for (int s = 0; s < steps; s++) {
            switch (s) {
                case 0 -> x.day();
                case 1 -> x.open(0, 0);
                case 2 -> x.open(1, -9);
                case 3 -> x.open(2, 1);
                default -> x.send(3);
            }
        }
    }

    private static void undoMakesRoom() {
        HoursByPost x = Due.house("de0");
        spend(x, 40);
        due.is("undo(41)", x.undo(41), -1);
        due.is("undo(40)", x.undo(40), 0);
        due.is("day() still", x.day(), -2);
        due.is("undo(39)", x.undo(39), 1);
        due.is("day()", x.day(), 40);
        due.is("undo(0)", x.undo(0), 40);
        due.is("day(), the first", x.day(), 1);
    }

    // Promise 20: "HOURS on the SHELF (bits); the DAY by asked(). STATE: no DEEDS."

    private static void shelfOfNoneAndOfSeven() {
        HoursByPost none = Due.house("de0");
        spend(none, 40);
        due.tells(none, "shelf() without HOURS on DAY 40", none.shelf(), 0, 40);
        HoursByPost x = Due.house("de0 hA00 hB00 hC00 hD00 hE00 hF00 hG00");
        due.tells(x, "shelf() of none", x.shelf(), 0, 0);
        x.day();
        due.tells(x, "shelf() of 7", x.shelf(), 127, 1);
        for (int h = 0; h < 7; h++) {
            x.open(h, -9);
            due.tells(x, "shelf() of " + (6 - h), x.shelf(), 127 & -2 << h, 1);
        }
    }

    // Promises 21, 22: "is kept in a place (0 .. 2): how many STEPS", "The HOUSE is as it was kept: how many STEPS"

    private static void keptInThreePlaces() {
        HoursByPost x = Due.house("de0");
        for (int k = 0; k <= 2; k++) {
            due.is("on(" + k + "), nothing kept yet", x.on(k), -3);
            due.is("finding()", x.finding(), NOTHING);
            x.day();
            due.is("keep(" + k + ")", x.keep(k), k + 1);
            due.is("count(8)", x.count(8), k + 1);
        }
        spend(x, 37);
        for (int k = 0; k <= 2; k++) {
            due.is("on(" + k + ")", x.on(k), k + 1);
            due.tells(x, "the DAY", x.shelf(), 0, k + 1);
            due.is("count(8) stays", x.count(8), 3);
        }
        due.is("keep(0) of no STEPS", x.undo(0) + x.keep(0), 3);
        due.is("on(0) of no STEPS", x.on(0), 0);
    }

    private static void keptAsItWas() {
        HoursByPost x = Due.house("le0 me0 hA00 hB00 hC00 hD00");
        HoursByPost twin = Due.house("le0 me0 hA00 hB00 hC00 hD00");
        x.route(2, 7);
        twin.route(2, 7);
        live(x, 5);
        live(twin, 5);
        due.is("keep(1)", x.keep(1), 5);
        twin.keep(1);
        x.undo(0);
        x.route(0, 0);
        x.route(2, 0);
        x.send(0);
        x.open(1, -9);
        x.open(3, 0);
        x.open(2, 1);
        x.undo(3);
        x.day();
        x.day();
        due.is("on(1)", x.on(1), 5);
        due.is("digest() as it was", x.digest(), twin.digest());
        due.is("HOURS since the MEAL", x.mark(1, 1), 0);
        for (int n = 4; n >= 0; n--) {
            due.is("undo(" + n + ")", x.undo(n), 1);
            twin.undo(n);
            due.is("digest() at STEP " + n, x.digest(), twin.digest());
            due.is("mark(1, 1) at STEP " + n, x.mark(1, 1), twin.mark(1, 1));
        }
        due.is("ROUTES as kept", x.route(2, 1), 7);
        due.is("ROUTE 0 as kept", x.route(0, 1), 1);
    }

    private static void keptAnew() {
        HoursByPost x = Due.house("de0");
        x.day();
        x.keep(0);
        x.day();
        due.is("keep(0) anew", x.keep(0), 2);
        due.is("count(8)", x.count(8), 1);
        x.undo(0);
        due.is("on(0)", x.on(0), 2);
        spend(x, 38);
        due.is("keep(2) of 40 STEPS", x.keep(2), 40);
        x.undo(0);
        due.is("on(2) of 40 STEPS", x.on(2), 40);
        due.is("day()", x.day(), -2);
        due.is("undo(0)", x.undo(0), 40);
    }

    private static void onForgetsWhatCameBehind() {
        HoursByPost x = Due.house("de0 hA00");
        x.keep(0);
        x.day();
        x.open(0, 0);
        due.is("on(0)", x.on(0), 0);
        due.is("count(2)", x.count(2), 0);
        due.is("undo(1)", x.undo(1), -1);
        due.tells(x, "hour(0, 4)", x.hour(0, 4), 1, NONE);
        x.day();
        x.open(0, 0);
        due.is("on(0): what is kept did not go on", x.on(0), 0);
        due.tells(x, "shelf()", x.shelf(), 0, 0);
    }

    // Promise 23: "DEEDS (bits) that CAN BE done in an HOUR now (wherever it is). BAD."

    private static void canWhereverItIs() {
        HoursByPost x = Due.house("dn0 de0 hA00 hB00 hC00 hD92");
        due.is("can(0) on its way", x.can(0), 3);
        x.day();
        due.is("can(0) on the SHELF", x.can(0), 3);
        x.open(0, -9);
        due.is("can(0) OPENED", x.can(0), 3);
        x.send(1);
        due.is("can(1) SENT BACK", x.can(1), 3);
        due.is("can(3) on its way", x.can(3), 3);
        x.open(2, 0);
        due.is("can(2), what is left", x.can(2), 2);
    }

    private static void canOfNoneAndOfAll() {
        HoursByPost x = Due.house("de0 dn0 le0 se0 pn0 pe0 hA00 hM00");
        due.is("can(0), all", x.can(0), 63);
        due.is("can(1), by day", x.can(1), 1 + 4 + 32);
        HoursByPost y = Due.house("dd0 me0 hA00");
        due.is("can(0), none", y.can(0), 0);
        due.is("asked() behind can()", y.asked(), 0);
    }

    // Promise 24: "Why a DEED CAN'T BE done in an HOUR now, the first of these"

    private static void whyTheFirst() {
        HoursByPost x = Due.house("dd0 sd10 dn0 hG00 hA00");
        x.day();
        due.tells(x, "2 ahead of 3 and 4", x.why(1, 1), 2, 0);
        due.tells(x, "2 ahead of 4", x.why(1, 0), 2, 0);
        x.open(0, 0);
        due.tells(x, "3 ahead of 4", x.why(1, 1), 3, NONE);
        due.tells(x, "4 alone", x.why(1, 0), 4, NONE);
        due.tells(x, "1 ahead of 3", x.why(0, 1), 1, NONE);
        due.tells(x, "1 alone", x.why(0, 0), 1, NONE);
        due.tells(x, "3 alone", x.why(2, 0), 3, NONE);
        due.tells(x, "0", x.why(2, 1), 0, NONE);
    }

    private static void whyTellsTheFirstNeed() {
        HoursByPost x = Due.house("de0 de0 de0 de0 de3310 hA00 hB00 hC00 hD00");
        x.day();
        due.tells(x, "none DONE", x.why(4, 0), 2, 0);
        x.open(0, 0);
        due.tells(x, "0 DONE", x.why(4, 0), 2, 1);
        x.open(1, 1);
        due.tells(x, "0, 1 DONE", x.why(4, 0), 2, 3);
        x.open(2, 3);
        due.tells(x, "all DONE", x.why(4, 0), 0, NONE);
    }

    // Promise 25: "How many DEEDS NEED a DEED in the end; which (bits) by asked()."

    private static void opensNoneAndAll() {
        HoursByPost chain = Due.house("de0 de10 de11 de12 de13 de14");
        for (int i = 0; i < 6; i++) {
            due.tells(chain, "opens(" + i + ") of a chain", chain.opens(i), 5 - i, 63 & -2 << i);
        }
        HoursByPost alone = Due.house("de0");
        due.tells(alone, "opens(0) of one DEED", alone.opens(0), 0, 0);
        due.is("opens(1)", alone.opens(1), -1);
    }

    // Promise 26: "The DAY by which all HOURS have COME (0 without HOURS); how many are on their way now by asked()."

    private static void lateWithoutHours() {
        HoursByPost x = Due.house("de0");
        due.tells(x, "late() on DAY 0", x.late(), 0, 0);
        spend(x, 5);
        due.tells(x, "late() on DAY 5", x.late(), 0, 0);
    }

    private static void lateAndOnTheirWay() {
        HoursByPost x = Due.house("de0 hA00 hB20 hC11");
        due.tells(x, "late() on DAY 0", x.late(), 3, 3);
        x.day();
        due.tells(x, "late() on DAY 1", x.late(), 3, 2);
        x.day();
        due.tells(x, "late() on DAY 2", x.late(), 3, 2);
        x.day();
        due.tells(x, "late() on DAY 3", x.late(), 3, 0);
        x.open(1, -9);
        x.send(2);
        due.tells(x, "late(), OPENED, SENT BACK", x.late(), 3, 0);
        HoursByPost y = Due.house("de0 hA92");
        y.route(2, 9);
        due.tells(y, "late(), as late as can be", y.late(), 18, 1);
        HoursByPost z = Due.house("de0 hA00");
        z.route(0, 0);
        due.tells(z, "late(), at once", z.late(), 0, 0);
    }
}
