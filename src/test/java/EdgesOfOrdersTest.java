/** The edges that the document names of orders (promises 27 to 32), a test for each sentence. */
public final class EdgesOfOrdersTest {
    private static final int NONE = -9, UNLIKE = 3, SIZE = 5;
    private static final int LEAST = Integer.MIN_VALUE, GREATEST = Integer.MAX_VALUE;
    private static final String SEVEN = " hA00 hB00 hC00 hD00 hE00 hF00 hG00";
    private static final Due due = new Due();

    public static void main(String[] args) {
        runOfEachSize();
        runOfNumbersThatAreNone();
        runLooksAtAllPairsFirst();
        runAsFarAsItCan();
        runWithoutHours();
        runGoesOnFromTheHouse();
        ordersAreAside();
        ordersAtFortySteps();
        mostOfNoHours();
        mostOfAll();
        mostByTheFewestHours();
        mostCountsWhatIsDone();
        fewestFromNoneToSeven();
        fewestByNone();
        orderOfNoPairs();
        orderOfSevenPairs();
        orderIsTheFirst();
        orderComesAnew();
        orderByNoneLeavesTheRow();
        shutOfNoneAndOfAll();
        shutAlone();
        waitsFromTodayOn();
        waitsUpToDay20();
        waitsForNothing();
        waitsForAnOrder();
        due.end();
    }

    private static void spend(HoursByPost x, int days) {
        for (int k = 0; k < days; k++) {
            x.day();
        }
    }

    private static HoursByPost onDayOne(String text) {
        HoursByPost x = Due.house(text);
        x.day();
        return x;
    }

    private static void rowIs(HoursByPost x, String what, int r, int... want) {
        for (int i = 0; i < want.length; i++) {
            due.tells(x, what + ": at(" + r + ", " + i + ")", x.at(r, i), 1, want[i]);
        }
        due.is(what + ": at(" + r + ", " + want.length + ")", x.at(r, want.length), -3);
    }

    // Promise 27: "SIZE: not even, more than 14; UNLIKE: no HOUR, no DEED, not NONE. (In this order.)"

    private static void runOfEachSize() {
        HoursByPost x = onDayOne("de0" + SEVEN);
        int refused = 0;
        for (int size = 0; size <= 40; size++) {
            x.row(0, size);
            for (int p = 0; p + 1 < size && size <= 16; p += 2) {
                x.lay(0, p, Math.min(p / 2, 6));
                x.lay(0, p + 1, NONE);
            }
            if (size % 2 == 0 && size <= 14) {
                due.tells(x, "run of " + size + " ints", x.run(0), size / 2, 0);
            } else {
                due.finds(x, "run of " + size + " ints", refused, x.run(0), SIZE);
                refused++;
            }
        }
    }

    private static void runOfNumbersThatAreNone() {
        HoursByPost x = onDayOne("de0 de0 hA00 hB00 hC00");
        int refused = 0;
        for (int h : new int[] {LEAST, NONE, -1, 3, GREATEST}) {
            Due.fill(x, 0, h, 0);
            due.finds(x, "run, HOUR " + h, refused++, x.run(0), UNLIKE);
        }
        for (int i : new int[] {LEAST, -10, -8, -1, 2, GREATEST}) {
            Due.fill(x, 0, 0, i);
            due.finds(x, "run, DEED " + i, refused++, x.run(0), UNLIKE);
        }
        Due.fill(x, 0, 0, 0, 2, 1);
        due.tells(x, "run, the first and the last of each", x.run(0), 2, 3);
        Due.fill(x, 0, 0, NONE);
        due.tells(x, "run, NONE", x.run(0), 1, 0);
    }

    private static void runLooksAtAllPairsFirst() {
        HoursByPost x = onDayOne("dd0 de0" + SEVEN);
        Due.fill(x, 0, 0, 0, 1, 1, 2, -9, 3, -9, 4, -9, 5, -9, 7, -9);
        due.finds(x, "run, no HOUR at the end, the first pair can't go", 0, x.run(0), UNLIKE);
        Due.fill(x, 0, 0, 0, 0, 0, 0, 0, 0, 0, 0, 0, 0, 0, 0, 2);
        due.finds(x, "run, no DEED at the end", 1, x.run(0), UNLIKE);
        Due.fill(x, 0, 0, 0, 1, 1);
        due.tells(x, "run, the first pair can't go", x.run(0), 0, 0);
    }

    // "An ORDER in a ROW of pairs .. goes as far as it can: how many pairs; DEEDS that are DONE then by asked()"

    private static void runAsFarAsItCan() {
        HoursByPost x = onDayOne("de0 de0 de0 de0 de0 de0 hA00 hB00 hC00 hD00 hE00 hF00 hG01");
        Due.fill(x, 0, 5, 5, 4, 4, 3, 3, 2, 2, 1, 1, 0, 0);
        due.tells(x, "all 6 pairs", x.run(0), 6, 63);
        Due.fill(x, 0, 5, 5, 4, 4, 3, 3, 2, 2, 1, 1, 6, 0);
        due.tells(x, "the last HOUR is on its way", x.run(0), 5, 62);
        Due.fill(x, 0, 5, 5, 5, 4, 3, 3);
        due.tells(x, "an HOUR that is OPENED in it", x.run(0), 1, 32);
        Due.fill(x, 0, 5, NONE, 5, NONE);
        due.tells(x, "an HOUR that is OPENED in it for none", x.run(0), 1, 0);
        Due.fill(x, 0, 0, NONE, 1, NONE, 1, NONE);
        due.tells(x, "the HOUR OPENED last once more", x.run(0), 2, 0);
        Due.fill(x, 0, 1, NONE);
        due.tells(x, "no pairs behind the ROW's end", x.run(0), 1, 0);
        x.row(0, 0);
        due.tells(x, "no pairs", x.run(0), 0, 0);
        Due.fill(x, 0, 5, 5, 4, 5, 3, 3);
        due.tells(x, "a DEED that is DONE in it", x.run(0), 1, 32);
        HoursByPost y = onDayOne("de0 de10 fe0 sn0 hA00 hB00 hM00 hC00");
        Due.fill(y, 0, 0, 1);
        due.tells(y, "what it NEEDS is not", y.run(0), 0, 0);
        Due.fill(y, 0, 0, 0, 1, 1, 3, 2);
        due.tells(y, "a FEAST", y.run(0), 3, 7);
        Due.fill(y, 0, 0, 0, 1, NONE, 3, 2);
        due.tells(y, "a FEAST with 1", y.run(0), 2, 1);
        Due.fill(y, 0, 0, 0, 2, 3);
        due.tells(y, "of another LIGHT", y.run(0), 1, 1);
    }

    private static void runWithoutHours() {
        HoursByPost x = Due.house("de0");
        x.row(0, 0);
        due.tells(x, "run of no pairs without HOURS", x.run(0), 0, 0);
        Due.fill(x, 0, 0, NONE);
        due.finds(x, "run of a pair without HOURS", 0, x.run(0), UNLIKE);
        x.row(0, 1);
        due.finds(x, "run of half a pair without HOURS", 0, x.run(0), SIZE);
    }

    private static void runGoesOnFromTheHouse() {
        HoursByPost x = onDayOne("de0 me0 hA00 hB00 hC00 hD00");
        x.open(0, 0);
        x.send(3);
        Due.fill(x, 0, 1, NONE, 2, 1);
        due.tells(x, "an HOUR OPENED ahead counts for a MEAL", x.run(0), 2, 3);
        Due.fill(x, 0, 0, NONE);
        due.tells(x, "an HOUR OPENED ahead", x.run(0), 0, 1);
        Due.fill(x, 0, 3, NONE);
        due.tells(x, "an HOUR SENT BACK", x.run(0), 0, 1);
        x.row(0, 0);
        due.tells(x, "no pairs", x.run(0), 0, 1);
    }

    // "---- 4 orders (aside)"

    private static void ordersAreAside() {
        HoursByPost x = onDayOne("de0 me0 fe0" + SEVEN);
        x.open(0, 0);
        Due.fill(x, 0, 1, NONE, 2, 1);
        x.order(1, 1);
        long before = x.digest();
        int since = x.mark(1, 1);
        x.run(0);
        x.most();
        x.fewest(2);
        x.order(1, 1);
        x.shut();
        x.waits(2);
        x.odds(2);
        due.is("digest()", x.digest(), before);
        due.is("mark(1, 1)", x.mark(1, 1), since);
        due.is("undo(1)", x.undo(1), 1);
    }

    private static void ordersAtFortySteps() {
        HoursByPost x = Due.house("de0 me0 hA00 hB00 hC00");
        spend(x, 40);
        due.is("open(0, 0)", x.open(0, 0), -2);
        due.tells(x, "most() at 40 STEPS", x.most(), 2, 3);
        due.is("fewest(0) at 40 STEPS", x.fewest(0), 1);
        due.is("order(0, 0) at 40 STEPS", x.order(0, 0), 1);
        due.tells(x, "run(0) at 40 STEPS", x.run(0), 1, 1);
    }

    // Promise 28: "The most DEEDS that can be DONE by an ORDER .. ; the fewest HOURS OPENED for that by asked()."

    private static void mostOfNoHours() {
        HoursByPost none = Due.house("de0");
        due.tells(none, "most() without HOURS", none.most(), 0, 0);
        HoursByPost x = Due.house("de0 hA00");
        due.tells(x, "most(), all on their way", x.most(), 0, 0);
        x.day();
        due.tells(x, "most(), one has COME", x.most(), 1, 1);
        x.send(0);
        due.tells(x, "most(), all SENT BACK", x.most(), 0, 0);
        HoursByPost y = onDayOne("sd0" + SEVEN);
        due.tells(y, "most(), none CAN BE", y.most(), 0, 0);
    }

    private static void mostOfAll() {
        HoursByPost x = onDayOne("de0 de0 de0 de0 de0 de0" + SEVEN);
        due.tells(x, "most() of 6", x.most(), 6, 6);
        HoursByPost y = onDayOne("me0 me0 le0 le0 le0 le0" + SEVEN);
        due.tells(y, "most() with two MEALS", y.most(), 6, 6);
        HoursByPost z = onDayOne("me0 me0 me0" + SEVEN);
        due.tells(z, "most() of MEALS alone", z.most(), 2, 6);
    }

    private static void mostByTheFewestHours() {
        HoursByPost x = onDayOne("me0" + SEVEN);
        due.tells(x, "most() of a MEAL", x.most(), 1, 3);
        HoursByPost y = onDayOne("me0 me0 le0" + SEVEN);
        due.tells(y, "most() of two MEALS and a LETTER", y.most(), 3, 6);
        HoursByPost z = onDayOne("me0 me0 le0 hA00 hB00 hC00 hD00 hE00");
        due.tells(z, "most() in 5 HOURS", z.most(), 2, 3);
    }

    private static void mostCountsWhatIsDone() {
        HoursByPost x = onDayOne("de0 dd0 hA00 hB00");
        due.tells(x, "most()", x.most(), 1, 1);
        x.open(0, 0);
        due.tells(x, "most(), DONE", x.most(), 1, 0);
        x.open(1, NONE);
        due.tells(x, "most(), DONE, no HOURS left", x.most(), 1, 0);
    }

    // Promise 29: "The fewest HOURS of the SHELF OPENED so that a DEED is DONE (0: it is). NONE: by none. BAD."

    private static void fewestFromNoneToSeven() {
        HoursByPost x = onDayOne("le0 me10 me11 le12" + SEVEN);
        due.is("fewest(0)", x.fewest(0), 1);
        due.is("fewest(1)", x.fewest(1), 3);
        due.is("fewest(2)", x.fewest(2), 6);
        due.is("fewest(3)", x.fewest(3), 7);
        x.open(6, 0);
        due.is("fewest(0), DONE", x.fewest(0), 0);
        due.is("fewest(1), one HOUR less", x.fewest(1), 2);
        due.is("fewest(3), one HOUR less", x.fewest(3), 6);
    }

    private static void fewestByNone() {
        HoursByPost x = Due.house("le0 me10 me11 le12 de13" + SEVEN);
        due.is("fewest(0), nothing on the SHELF", x.fewest(0), NONE);
        x.day();
        due.is("fewest(4), 8 HOURS were needed", x.fewest(4), NONE);
        x.send(0);
        due.is("fewest(3), 6 HOURS left", x.fewest(3), NONE);
        due.is("fewest(2), 6 HOURS left", x.fewest(2), 6);
        x.send(1);
        due.is("fewest(2), 5 HOURS left", x.fewest(2), NONE);
        due.is("asked() behind NONE", x.asked(), 0);
    }

    // Promise 30: "Such an ORDER (the first by HOURS and DEEDS, pair by pair, none ahead of DEED 0) comes to a ROW (anew)"

    private static void orderOfNoPairs() {
        HoursByPost x = onDayOne("de0 hA00");
        x.open(0, 0);
        Due.fill(x, 0, 5, 6, 7);
        due.is("order(0, 0), DONE", x.order(0, 0), 0);
        rowIs(x, "order(0, 0), DONE", 0);
        due.is("order(0, 5) to a missing ROW, DONE", x.order(0, 5), 0);
        due.is("count(6)", x.count(6), 2);
    }

    private static void orderOfSevenPairs() {
        HoursByPost x = onDayOne("le0 me10 me11 le12" + SEVEN);
        due.is("order(3, 5)", x.order(3, 5), 7);
        rowIs(x, "order(3, 5)", 5, 0, NONE, 1, 0, 2, 1, 3, NONE, 4, NONE, 5, 2, 6, 3);
        due.tells(x, "run(5)", x.run(5), 7, 15);
        HoursByPost chain = onDayOne("de0 de10 de11 de12 de13 de14" + SEVEN);
        for (int i = 0; i < 6; i++) {
            due.is("fewest(" + i + ") of a chain", chain.fewest(i), i + 1);
            due.is("order(" + i + ", 0) of a chain", chain.order(i, 0), i + 1);
            due.tells(chain, "run(0) of a chain", chain.run(0), i + 1, (2 << i) - 1);
            due.tells(chain, "the last HOUR", chain.at(0, 2 * i), 1, i);
            due.tells(chain, "the last DEED", chain.at(0, 2 * i + 1), 1, i);
        }
    }

    private static void orderIsTheFirst() {
        HoursByPost x = onDayOne("le0 le0 me11 le0" + SEVEN);
        due.is("order(2, 0)", x.order(2, 0), 3);
        rowIs(x, "none ahead of DEED 0", 0, 0, NONE, 1, 1, 2, 2);
        HoursByPost y = onDayOne("dn0 dd10 hH00 hG00 hB00 hA00");
        due.is("order(1, 0)", y.order(1, 0), 2);
        rowIs(y, "the first HOURS that fit", 0, 2, 0, 0, 1);
        HoursByPost z = onDayOne("de0 de0 fe0 hA00 hB00 hC00");
        due.is("order(2, 0)", z.order(2, 0), 3);
        rowIs(z, "DEED 0 ahead of DEED 1", 0, 0, 0, 1, 1, 2, 2);
        HoursByPost meal = onDayOne("me0 le0 hA00 hB00 hC00");
        due.is("order(0, 0)", meal.order(0, 0), 3);
        rowIs(meal, "none ahead of any DEED", 0, 0, NONE, 1, NONE, 2, 0);
        HoursByPost alone = onDayOne("me0 hA00 hB00 hC00");
        due.is("order(0, 0)", alone.order(0, 0), 3);
        rowIs(alone, "a MEAL alone", 0, 0, NONE, 1, NONE, 2, 0);
        HoursByPost noon = onDayOne("de0 de10 dd11 hM00 hA00 hB00");
        due.is("order(2, 0)", noon.order(2, 0), 3);
        rowIs(noon, "the first HOUR is kept for the last DEED", 0, 1, 0, 2, 1, 0, 2);
        HoursByPost between = onDayOne("de0 de10 dd11 hA00 hM00 hB00");
        due.is("order(2, 0)", between.order(2, 0), 3);
        rowIs(between, "the second HOUR is kept for the last DEED", 0, 0, 0, 2, 1, 1, 2);
        HoursByPost end = onDayOne("de0 de10 dd11 hA00 hB00 hM00");
        due.is("order(2, 0)", end.order(2, 0), 3);
        rowIs(end, "the last HOUR is kept for the last DEED", 0, 0, 0, 1, 1, 2, 2);
    }

    private static void orderComesAnew() {
        HoursByPost x = onDayOne("de0 hA00");
        x.row(3, 40);
        for (int i = 0; i < 40; i++) {
            x.lay(3, i, 77);
        }
        due.is("order(0, 3) to a longer ROW", x.order(0, 3), 1);
        rowIs(x, "order(0, 3)", 3, 0, 0);
        Due.fill(x, 4, 9);
        due.is("order(0, 4) to a shorter ROW", x.order(0, 4), 1);
        rowIs(x, "order(0, 4)", 4, 0, 0);
        int told = x.asked();
        due.is("order(0, 0) to a missing ROW", x.order(0, 0), 1);
        due.is("asked() behind order()", x.asked(), told);
        rowIs(x, "order(0, 0)", 0, 0, 0);
        due.is("count(6)", x.count(6), 3);
    }

    private static void orderByNoneLeavesTheRow() {
        HoursByPost x = onDayOne("dd0 hA00");
        Due.fill(x, 0, 5, 6);
        due.is("order(0, 0) by none", x.order(0, 0), NONE);
        rowIs(x, "order(0, 0) by none", 0, 5, 6);
        due.is("order(0, 1) by none", x.order(0, 1), NONE);
        due.is("at(1, 0), still missing", x.at(1, 0), -3);
        due.is("finding()", x.finding(), 1);
    }

    // Promise 31: "HOURS of the SHELF (bits) that may be kept shut: without each (alone) as many DEEDS can be DONE .."

    private static void shutOfNoneAndOfAll() {
        due.is("shut() without HOURS", Due.house("de0").shut(), 0);
        HoursByPost x = Due.house("de0 de0 de0 de0 de0 de0 hA00 hB00 hC00 hD00 hE00 hF00 hG00");
        due.is("shut(), all on their way", x.shut(), 0);
        x.day();
        due.is("shut() of 7, 6 are needed", x.shut(), 127);
        x.send(0);
        due.is("shut() of 6, all are needed", x.shut(), 0);
        HoursByPost y = onDayOne("dd0 hA00 hB00");
        due.is("shut(), nothing CAN BE", y.shut(), 3);
        due.is("asked() behind shut()", y.asked(), 0);
    }

    private static void shutAlone() {
        HoursByPost x = onDayOne("dd0 hG00 hH00 hA00 hB92");
        due.is("either alone, not both; not on its way", x.shut(), 7);
        x.send(0);
        due.is("the last of its LIGHT", x.shut(), 4);
        x.open(1, 0);
        due.is("all DONE", x.shut(), 4);
        x.open(2, NONE);
        due.is("no HOURS left", x.shut(), 0);
        HoursByPost y = onDayOne("dd0 hM00 hA00");
        due.is("the first HOUR is needed", y.shut(), 2);
        HoursByPost z = onDayOne("dd0 hA00 hB00 hC00 hD00 hE00 hF00 hG00");
        due.is("the last HOUR is needed", z.shut(), 63);
    }

    // Promise 32: "The first DAY (from today on, 20 at most) on which .. a DEED is DONE, or can be by an ORDER. NONE"

    private static void waitsFromTodayOn() {
        HoursByPost x = Due.house("de0 hA00 hB21");
        due.is("waits(0) on DAY 0", x.waits(0), 1);
        x.day();
        due.is("waits(0) on DAY 1", x.waits(0), 1);
        x.day();
        due.is("waits(0) on DAY 2", x.waits(0), 2);
        x.send(0);
        due.is("waits(0), the first SENT BACK", x.waits(0), 4);
        spend(x, 2);
        x.open(1, 0);
        due.is("waits(0), DONE", x.waits(0), 4);
        x.day();
        due.is("waits(0), DONE, a DAY later", x.waits(0), 5);
        HoursByPost y = Due.house("de0 hA00");
        y.route(0, 0);
        due.is("waits(0), at once", y.waits(0), 0);
    }

    private static void waitsUpToDay20() {
        HoursByPost x = Due.house("de0 hA92");
        x.route(2, 9);
        due.is("waits(0) as late as can be", x.waits(0), 18);
        spend(x, 18);
        due.is("waits(0) on DAY 18", x.waits(0), 18);
        x.day();
        due.is("waits(0) on DAY 19", x.waits(0), 19);
        x.day();
        due.is("waits(0) on DAY 20", x.waits(0), 20);
        x.day();
        due.is("waits(0) on DAY 21", x.waits(0), NONE);
        x.undo(20);
        x.open(0, 0);
        due.is("waits(0) on DAY 20, DONE", x.waits(0), 20);
        x.day();
        due.is("waits(0) on DAY 21, DONE", x.waits(0), NONE);
    }

    private static void waitsForNothing() {
        due.is("waits(0) without HOURS", Due.house("de0").waits(0), NONE);
        HoursByPost x = onDayOne("dd0 hA00 hM00");
        due.is("waits(0)", x.waits(0), 1);
        x.send(1);
        due.is("waits(0), its HOUR SENT BACK", x.waits(0), NONE);
        due.is("asked() behind waits()", x.asked(), 0);
    }

    private static void waitsForAnOrder() {
        HoursByPost x = Due.house("le0 me10 hA00 hB10 hC30 hD40");
        due.is("waits(0)", x.waits(0), 1);
        due.is("waits(1), a third HOUR", x.waits(1), 4);
        x.day();
        x.open(0, NONE);
        due.is("waits(1), one OPENED for none", x.waits(1), 4);
        x.day();
        x.send(1);
        due.is("waits(1), one SENT BACK", x.waits(1), 5);
    }
}
