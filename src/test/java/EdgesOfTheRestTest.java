import java.util.ArrayList;
import java.util.List;

/** The edges that the document names of promises 33 to 44, a test for each sentence. */
public final class EdgesOfTheRestTest {
    private static final int NONE = -9, UNLIKE = 3, SIZE = 5;
    private static final int LEAST = Integer.MIN_VALUE, GREATEST = Integer.MAX_VALUE;
    private static final String SEVEN = " hA00 hA00 hA00 hA00 hA00 hA00 hA00";
    private static final Due due = new Due();

    public static void main(String[] args) {
        constants();
        diaryOfEachSize();
        diaryOfEachHour();
        diaryOfNumbersThatAreNone();
        diaryOfOneTooMany();
        diaryTellsTheFirst();
        diaryWheneverItComes();
        diaryWithoutHours();
        forgedAtEachPlace();
        forgedOfEachSize();
        forgedDoesNotTell();
        stolenByHowManyAreThere();
        stolenByTheDay();
        stolenOfAllSeven();
        stolenWhateverIsDone();
        oddsOfNoneAndOfAll();
        oddsInLowestTerms();
        oddsOfTheShelfAlone();
        lotsOfTheFirstAndTheLastSeed();
        lotsFromOneToTwenty();
        lotsTillFortySteps();
        lotsThatFallOnNone();
        lotsCountJustTheirDeeds();
        askedBeforeAndBehindRefusals();
        askedOfEachCall();
        askedBehindNone();
        chancesBeforeAndBehind();
        countsFromNothingToAll();
        findingStays();
        findingsAreCountedEach();
        digestOfANewObject();
        digestOfRowsAndTexts();
        digestOfKeptHouses();
        digestOfRoutesAndDays();
        due.end();
    }

    private static void spend(HoursByPost x, int days) {
        for (int k = 0; k < days; k++) {
            x.day();
        }
    }

    private static void constants() {
        due.is("BAD", HoursByPost.BAD, -1);
        due.is("FULL", HoursByPost.FULL, -2);
        due.is("FINDING", HoursByPost.FINDING, -3);
        due.is("STATE", HoursByPost.STATE, -4);
        due.is("SPENT", HoursByPost.SPENT, -6);
        due.is("NONE", HoursByPost.NONE, -9);
    }

    // Promise 33: "SIZE: more than 7; UNLIKE: out of 0 .. 23. (In this order.)"

    private static void diaryOfEachSize() {
        HoursByPost x = Due.house("de0" + SEVEN);
        int[] ways = {1, 7, 42, 210, 840, 2520, 5040, 5040};
        for (int size = 0; size <= 7; size++) {
            x.row(0, size);
            due.tells(x, "diary of " + size, x.diary(0), ways[size], size == 0 ? NONE : 0);
        }
        int refused = 0;
        for (int size : new int[] {8, 9, 40}) {
            x.row(0, size);
            due.finds(x, "diary of " + size, refused++, x.diary(0), SIZE);
        }
    }

    private static void diaryOfEachHour() {
        for (int time = 0; time <= 23; time++) {
            HoursByPost x = Due.house("de0 hM00 h" + (char) ('A' + time) + "00");
            Due.fill(x, 0, time);
            due.tells(x, "diary of " + time, x.diary(0), time == 12 ? 2 : 1, time == 12 ? 0 : 1);
            Due.fill(x, 0, (time + 1) % 24);
            boolean isNoon = time + 1 == 12;
            due.tells(x, "diary of the HOUR behind " + time, x.diary(0), isNoon ? 1 : 0, isNoon ? 0 : NONE);
        }
    }

    private static void diaryOfNumbersThatAreNone() {
        HoursByPost x = Due.house("de0" + SEVEN);
        int refused = 0;
        for (int time : new int[] {LEAST, NONE, -1, 24, GREATEST}) {
            Due.fill(x, 0, time);
            due.finds(x, "diary of " + time, refused++, x.diary(0), UNLIKE);
            due.finds(x, "forged of " + time, refused++, x.forged(0), UNLIKE);
            Due.fill(x, 0, 5, 0, 0, 0, 0, 0, time);
            due.finds(x, "diary with " + time + " at the end", refused++, x.diary(0), UNLIKE);
            due.finds(x, "forged with " + time + " at the end", refused++, x.forged(0), UNLIKE);
        }
        Due.fill(x, 0, 0, 0, 0, 0, 0, 0, 0, 24);
        due.finds(x, "diary of 8, SIZE ahead of UNLIKE", 0, x.diary(0), SIZE);
        due.finds(x, "forged of 8, SIZE ahead of UNLIKE", 1, x.forged(0), SIZE);
    }

    // "in how many ways these can have been HOURS of the post (each once, whenever it COMES)"

    private static void diaryOfOneTooMany() {
        HoursByPost x = Due.house("de0 hA00 hA00 hB00");
        Due.fill(x, 0, 0, 0);
        due.tells(x, "diary of both", x.diary(0), 2, 0);
        Due.fill(x, 0, 0, 0, 0);
        due.tells(x, "diary of one too many", x.diary(0), 0, NONE);
        Due.fill(x, 0, 0, 1, 0);
        due.tells(x, "diary of all", x.diary(0), 2, 0);
        Due.fill(x, 0, 0, 1, 0, 1);
        due.tells(x, "diary of all and one", x.diary(0), 0, NONE);
        Due.fill(x, 0, 0, 0, 0, 0, 0, 0, 0);
        due.tells(x, "diary of far too many", x.diary(0), 0, NONE);
    }

    private static void diaryTellsTheFirst() {
        HoursByPost x = Due.house("de0 hB00 hC00 hA00 hC00 hA00 hD00 hX00");
        int[] first = {2, 0, 1, 5};
        for (int time = 0; time < 4; time++) {
            Due.fill(x, 0, time, 23);
            due.tells(x, "diary of " + time + ", 23", x.diary(0), time == 0 || time == 2 ? 2 : 1, first[time]);
        }
        Due.fill(x, 0, 23, 0);
        due.tells(x, "diary of 23, 0", x.diary(0), 2, 6);
    }

    private static void diaryWheneverItComes() {
        HoursByPost x = Due.house("de0 hA92 hA00 hA00");
        Due.fill(x, 0, 0, 0, 0);
        due.tells(x, "diary on DAY 0", x.diary(0), 6, 0);
        x.day();
        x.open(1, 0);
        x.send(2);
        due.tells(x, "diary, OPENED, SENT BACK, on its way", x.diary(0), 6, 0);
    }

    private static void diaryWithoutHours() {
        HoursByPost x = Due.house("de0");
        x.row(0, 0);
        due.tells(x, "diary of none", x.diary(0), 1, NONE);
        due.is("forged of none", x.forged(0), NONE);
        x.row(0, 1);
        due.tells(x, "diary of one", x.diary(0), 0, NONE);
        due.is("forged of one", x.forged(0), 0);
    }

    // Promise 34: "The first place of such a ROW at which it is forged .. NONE: none is."

    private static void forgedAtEachPlace() {
        HoursByPost x = Due.house("de0" + SEVEN);
        for (int p = 0; p < 7; p++) {
            x.row(0, 7);
            x.lay(0, p, 23);
            due.is("forged at " + p, x.forged(0), p);
            x.lay(0, 6, 23);
            due.is("forged at " + p + " and at the end", x.forged(0), p);
        }
        x.row(0, 7);
        due.is("forged at none", x.forged(0), NONE);
    }

    private static void forgedOfEachSize() {
        HoursByPost x = Due.house("de0 hA00 hA00 hB00");
        x.row(0, 0);
        due.is("forged of 0", x.forged(0), NONE);
        x.row(0, 1);
        due.is("forged of 1", x.forged(0), NONE);
        x.row(0, 2);
        due.is("forged of 2", x.forged(0), NONE);
        x.row(0, 3);
        due.is("forged of 3, one too many", x.forged(0), 2);
        x.row(0, 7);
        due.is("forged of 7", x.forged(0), 2);
        x.row(0, 8);
        due.finds(x, "forged of 8", 0, x.forged(0), SIZE);
        Due.fill(x, 0, 0, 1, 0, 1);
        due.is("forged, with those ahead", x.forged(0), 3);
    }

    private static void forgedDoesNotTell() {
        HoursByPost x = Due.house("de0 hA00");
        Due.fill(x, 0, 7, 7);
        x.at(0, 1);
        due.is("forged(0)", x.forged(0), 0);
        due.is("asked()", x.asked(), 7);
        x.row(0, 0);
        due.is("forged(0), NONE", x.forged(0), NONE);
        due.is("asked()", x.asked(), 7);
    }

    // Promise 35: "if n (0 .. 7) are on a SHELF on which all of the post were that COME by a DAY (0 .. 20)"

    private static void stolenByHowManyAreThere() {
        HoursByPost x = Due.house("de0 hA00 hB00 hC00 hD92");
        for (int n = 0; n <= 7; n++) {
            due.is("stolen(" + n + ", 1) of 3", x.stolen(n, 1), n == 2 ? 7 : 0);
            due.is("stolen(" + n + ", 20) of 4", x.stolen(n, 20), n == 3 ? 15 : 0);
            due.is("stolen(" + n + ", 0) of none", x.stolen(n, 0), 0);
        }
    }

    private static void stolenByTheDay() {
        HoursByPost x = Due.house("de0 hA92 hB00 hC01");
        x.route(2, 9);
        for (int day = 0; day <= 20; day++) {
            int come = (day >= 18 ? 1 : 0) + (day >= 1 ? 2 : 0) + (day >= 2 ? 4 : 0);
            int many = Integer.bitCount(come);
            due.is("stolen(" + many + ", " + day + "), none missing", x.stolen(many, day), 0);
            due.is("stolen, one missing on DAY " + day, x.stolen(Math.max(0, many - 1), day), many == 0 ? 0 : come);
        }
        due.is("stolen(0, 21)", x.stolen(0, 21), -1);
        due.is("stolen(0, -1)", x.stolen(0, -1), -1);
    }

    private static void stolenOfAllSeven() {
        HoursByPost x = Due.house("de0" + SEVEN);
        for (int n = 0; n <= 7; n++) {
            due.is("stolen(" + n + ", 20) of 7", x.stolen(n, 20), n == 6 ? 127 : 0);
        }
        due.is("stolen(8, 20)", x.stolen(8, 20), -1);
        due.is("stolen(-1, 20)", x.stolen(-1, 20), -1);
    }

    private static void stolenWhateverIsDone() {
        HoursByPost x = Due.house("de0 hA00 hB00 hC00");
        spend(x, 3);
        x.open(0, 0);
        x.send(1);
        due.is("stolen(2, 1)", x.stolen(2, 1), 7);
        due.is("stolen(2, 0), a DAY that has gone by", x.stolen(2, 0), 0);
        due.is("asked()", x.asked(), 0);
        due.is("stolen(0, 20) without a HOUSE", new HoursByPost().stolen(0, 20), 0);
    }

    // Promise 36: "Chances .. if each of these is lost or not, alike likely, told by upper(), lower(): 1."

    private static void chances(HoursByPost x, String what, int i, long upper, long lower) {
        due.is(what + ": odds(" + i + ")", x.odds(i), 1);
        due.is(what + ": upper()", x.upper(), upper);
        due.is(what + ": lower()", x.lower(), lower);
    }

    private static void oddsOfNoneAndOfAll() {
        HoursByPost none = Due.house("de0");
        chances(none, "without HOURS", 0, 0, 1);
        HoursByPost x = Due.house("de0 le0 me11 me12 le13 dd0 hA00 hA00 hA00 hA00 hA00 hA00 hA00");
        chances(x, "on their way", 0, 0, 1);
        x.day();
        chances(x, "any of 7", 0, 127, 128);
        chances(x, "all 7", 4, 1, 128);
        chances(x, "6 of 7", 3, 1, 16);
        chances(x, "by no HOUR", 5, 0, 1);
        x.open(0, 0);
        chances(x, "DONE", 0, 1, 1);
        HoursByPost y = Due.house("de0 hA00");
        y.day();
        chances(y, "one HOUR", 0, 1, 2);
        y.open(0, 0);
        chances(y, "DONE, no HOURS left", 0, 1, 1);
    }

    private static void oddsInLowestTerms() {
        HoursByPost x = Due.house("dd0 dn10 me0 hM00 hA00 hB00 hC00");
        x.day();
        chances(x, "8 of 16", 0, 1, 2);
        chances(x, "7 of 16", 1, 7, 16);
        chances(x, "5 of 16", 2, 5, 16);
        x.send(3);
        x.send(2);
        chances(x, "2 of 4", 0, 1, 2);
        chances(x, "1 of 4", 1, 1, 4);
        chances(x, "0 of 4", 2, 0, 1);
    }

    private static void oddsOfTheShelfAlone() {
        HoursByPost x = Due.house("de0 hA00 hB00 hC01 hD00");
        x.day();
        x.open(0, NONE);
        x.send(1);
        chances(x, "one OPENED, one SENT BACK, one on its way", 0, 1, 2);
        x.day();
        chances(x, "one more has COME", 0, 3, 4);
        due.is("asked() behind odds()", x.asked(), 0);
    }

    // Promise 37: "n (1 .. 20) HOURS truly by LOTS of a seed .. (1 .. 2147483646)"

    private static HoursByPost threeLetters() {
        HoursByPost x = Due.house("le0 le0 le0 hA00 hB00 hC00");
        x.route(0, 0);
        return x;
    }

    private static void deedsIn(HoursByPost x, String what, int... deeds) {
        for (int h = 0; h < deeds.length; h++) {
            due.tells(x, what + ": hour(" + h + ", 4)", x.hour(h, 4), 1, deeds[h]);
        }
    }

    private static void lotsOfTheFirstAndTheLastSeed() {
        // Seed 1: 48271 (mod 3: 1; 754 mod 4: 2), 182605794 (mod 2: 0; 2853215 mod 3: 2, none), 1291394886 (20178045 mod 3: 0).
        HoursByPost first = threeLetters();
        due.is("lots(1, 1)", first.lots(1, 1), 1);
        deedsIn(first, "lots(1, 1)", NONE, 2, NONE);
        first.undo(0);
        due.is("lots(2, 1)", first.lots(2, 1), 1);
        due.tells(first, "lots(2, 1): shelf()", first.shelf(), 4, 0);
        first.undo(0);
        due.is("lots(3, 1)", first.lots(3, 1), 2);
        deedsIn(first, "lots(3, 1)", NONE, 2, 0);
        // Seed 2147483646: 2147435376 (mod 3: 0; 33553677 mod 4: 1), 1964877853 (mod 2: 1; 30701216 mod 3: 2, none),
        // 856088761 (13376386 mod 3: 1).
        HoursByPost last = threeLetters();
        due.is("lots(1, 2147483646)", last.lots(1, 2147483646), 1);
        deedsIn(last, "lots(1, 2147483646)", 1, NONE, NONE);
        last.undo(0);
        due.is("lots(3, 2147483646)", last.lots(3, 2147483646), 2);
        deedsIn(last, "lots(3, 2147483646)", 1, 2, NONE);
        due.tells(last, "hour(2, 3)", last.hour(2, 3), 1, 2);
    }

    private static void lotsFromOneToTwenty() {
        HoursByPost x = Due.house("de0");
        due.is("lots(1, 5), a DAY", x.lots(1, 5), 0);
        due.is("count(2)", x.count(2), 1);
        due.is("lots(20, 5)", x.lots(20, 5), 0);
        due.is("count(2)", x.count(2), 21);
        due.tells(x, "shelf()", x.shelf(), 0, 21);
        due.is("lots(21, 5)", x.lots(21, 5), -1);
        due.is("lots(0, 5)", x.lots(0, 5), -1);
        due.is("count(2)", x.count(2), 21);
        due.is("undo(20), each DAY is a STEP", x.undo(20), 1);
    }

    private static void lotsTillFortySteps() {
        HoursByPost x = Due.house("le0 hA00 hB00");
        spend(x, 39);
        // 48271 mod 2: HOUR 1; 754 mod 2: DEED 0.
        due.is("lots(20, 1) at 39 STEPS", x.lots(20, 1), 1);
        due.is("count(2)", x.count(2), 40);
        due.tells(x, "shelf()", x.shelf(), 1, 39);
        due.is("lots(20, 1) at 40 STEPS", x.lots(20, 1), 0);
        due.is("count(2)", x.count(2), 40);
        HoursByPost y = Due.house("le0");
        spend(y, 20);
        y.lots(20, 1);
        due.is("lots(20, 1) from 20 STEPS on", y.count(2), 40);
        y.undo(21);
        y.lots(20, 1);
        due.is("lots(20, 1) from 21 STEPS on", y.count(2), 40);
        y.undo(19);
        y.lots(20, 1);
        due.is("lots(20, 1) from 19 STEPS on", y.count(2), 39);
    }

    private static void lotsThatFallOnNone() {
        HoursByPost x = Due.house("le0 hA00");
        x.route(0, 0);
        // 5 * 48271 = 241355; by 64, cut, 3771: 1 of 2, none.
        due.is("lots(1, 5)", x.lots(1, 5), 0);
        due.tells(x, "hour(0, 3)", x.hour(0, 3), 1, 2);
        deedsIn(x, "lots(1, 5)", NONE);
        x.undo(0);
        // 48271; by 64, cut, 754: 0 of 2, DEED 0.
        due.is("lots(1, 1)", x.lots(1, 1), 1);
        deedsIn(x, "lots(1, 1)", 0);
        HoursByPost y = Due.house("dd0 hA00");
        y.route(0, 0);
        due.is("lots(1, 1), no DEED CAN BE", y.lots(1, 1), 0);
        due.tells(y, "hour(0, 3)", y.hour(0, 3), 1, 2);
    }

    private static void lotsCountJustTheirDeeds() {
        HoursByPost x = Due.house("le0 le0 hA00 hB00");
        x.route(0, 0);
        x.open(0, 0);
        // 48271: HOUR 1, the only one; 754 mod 2: 0, the only DEED that CAN BE.
        due.is("lots(1, 1)", x.lots(1, 1), 1);
        due.is("count(3)", x.count(3), 2);
        due.is("asked() behind lots()", x.asked(), 0);
    }

    // Promise 38: "What the latest .. that was not refused (nor NONE, but as told) told; 0 before."

    private static void askedBeforeAndBehindRefusals() {
        HoursByPost x = new HoursByPost();
        due.is("asked() before", x.asked(), 0);
        x.at(0, 0);
        x.shelf();
        x.most();
        x.late();
        x.deed(0, 0);
        due.is("asked() behind refusals alone", x.asked(), 0);
        Due.fill(x, 0, GREATEST);
        x.at(0, 0);
        due.is("asked()", x.asked(), GREATEST);
        due.is("asked() again", x.asked(), GREATEST);
    }

    private static void askedOfEachCall() {
        HoursByPost x = Due.house("dd0 me10 de11 hM00 hA00 hM92");
        spend(x, 2);
        Due.fill(x, 0, 50, 60);
        Due.fill(x, 1, 0, 0, 1, NONE);
        Due.fill(x, 2, 0);
        due.tells(x, "lay", x.lay(0, 0, 51), 1, 50);
        due.tells(x, "at", x.at(0, 1), 1, 60);
        due.tells(x, "mean", x.mean(0), 1, 55);
        due.tells(x, "deed", x.deed(2, 4), 1, 3);
        due.tells(x, "hour", x.hour(2, 2), 1, 13);
        due.tells(x, "shelf", x.shelf(), 3, 2);
        due.tells(x, "why", x.why(2, 0), 2, 1);
        due.tells(x, "opens", x.opens(0), 2, 6);
        due.tells(x, "why that can", x.why(0, 0), 0, NONE);
        due.tells(x, "late", x.late(), 13, 1);
        due.tells(x, "run", x.run(1), 2, 1);
        due.tells(x, "diary", x.diary(2), 1, 1);
        due.tells(x, "most", x.most(), 1, 1);
    }

    private static void askedBehindNone() {
        HoursByPost x = Due.house("sd0 hA00 hM00");
        x.day();
        Due.fill(x, 0, 33);
        x.at(0, 0);
        due.is("fewest(0)", x.fewest(0), NONE);
        due.is("order(0, 0)", x.order(0, 0), NONE);
        due.is("waits(0)", x.waits(0), NONE);
        due.is("fault(0)", x.fault(0), NONE);
        due.is("asked() behind NONE", x.asked(), 33);
        x.row(0, 0);
        due.is("forged(0)", x.forged(0), NONE);
        due.is("asked() behind NONE", x.asked(), 33);
        due.tells(x, "diary of none tells NONE", x.diary(0), 1, NONE);
    }

    // Promises 39, 40: "The upper number of the chances that were told last; 0 before.", "Its lower number; 1 before."

    private static void chancesBeforeAndBehind() {
        HoursByPost x = Due.house("de0 hA00 hB00");
        due.is("upper() before", x.upper(), 0);
        due.is("lower() before", x.lower(), 1);
        x.odds(1);
        x.odds(-1);
        due.is("upper() behind BAD", x.upper(), 0);
        due.is("lower() behind BAD", x.lower(), 1);
        x.day();
        chances(x, "told", 0, 3, 4);
        x.odds(1);
        x.send(0);
        due.is("upper() stays", x.upper(), 3);
        due.is("lower() stays", x.lower(), 4);
        chances(x, "told last", 0, 1, 2);
    }

    // Promise 41: "0 DEEDS, 1 HOURS, 2 STEPS, 3 .. DONE, 4 .. OPENED, 5 MEALS, 6 ROWS, 7 TEXTS that are there, 8 kept"

    private static void countsAre(HoursByPost x, String what, int... want) {
        for (int k = 0; k <= 8; k++) {
            due.is(what + ": count(" + k + ")", x.count(k), want[k]);
        }
    }

    private static void countsFromNothingToAll() {
        HoursByPost x = new HoursByPost();
        countsAre(x, "new", 0, 0, 0, 0, 0, 0, 0, 0, 0);
        Due.write(x, 0, "fe0 me0 me0 fe0 me0 fe0" + SEVEN);
        x.house(0);
        countsAre(x, "MEALS alone", 6, 7, 0, 0, 0, 6, 0, 1, 0);
        for (int k = 0; k < 6; k++) {
            x.row(k, k);
        }
        for (int k = 1; k < 4; k++) {
            x.text(k, k);
        }
        x.day();
        for (int h = 0; h < 7; h++) {
            x.open(h, h == 2 ? 1 : h == 5 ? 2 : NONE);
        }
        spend(x, 32);
        for (int k = 0; k < 3; k++) {
            x.keep(k);
        }
        countsAre(x, "all", 6, 7, 40, 2, 7, 6, 6, 4, 3);
        countsAre(Due.house("de0 se0 le0 pe0"), "no MEALS", 4, 0, 0, 0, 0, 0, 0, 1, 0);
        due.is("count(9)", x.count(9), -1);
        due.is("count(-1)", x.count(-1), -1);
    }

    // Promises 42, 43: "The latest FINDING (0 before any).", "How often a FINDING (1 .. 5) was answered."

    private static void findingStays() {
        HoursByPost x = new HoursByPost();
        due.is("finding() before", x.finding(), 0);
        x.row(6, 0);
        x.day();
        x.keep(0);
        due.is("finding() behind BAD, STATE", x.finding(), 0);
        x.row(0, -1);
        due.is("finding() of SIZE", x.finding(), 5);
        x.row(0, 0);
        x.row(0, 41);
        x.shelf();
        due.is("finding() behind others", x.finding(), 5);
        x.mean(0);
        due.is("finding() of NOUGHT", x.finding(), 4);
        x.mean(0);
        due.is("finding() again", x.finding(), 4);
    }

    private static void findingsAreCountedEach() {
        HoursByPost x = Due.house("de0");
        x.row(0, 0);
        for (int k = 0; k < 5; k++) {
            for (int f = 1; f <= 5; f++) {
                due.is("findings(" + f + ")", x.findings(f), k < f ? k : f);
            }
            for (int f = k + 1; f <= 5; f++) {
                findOnce(x, f);
            }
        }
        for (int f = 1; f <= 5; f++) {
            due.is("findings(" + f + ") in the end", x.findings(f), f);
        }
    }

    private static void findOnce(HoursByPost x, int f) {
        switch (f) {
            case 1 -> x.tear(5);
            case 2 -> x.at(0, 0);
            case 3 -> x.mark(0, 1);
            case 4 -> x.mean(0);
            default -> x.text(0, -1);
        }
    }

    // Promise 44: "h = 17; then h = 31 h + v for each v"

    private static long digestOf(List<Integer> values) {
        long h = 17;
        for (int v : values) {
            h = 31 * h + v;
        }
        return h;
    }

    /** Counts, the DAY, ROUTES as told; no DEEDS, no HOURS; each kept HOUSE; then ROWS and TEXTS. */
    private static List<Integer> values(int... first) {
        List<Integer> values = new ArrayList<>();
        for (int v : first) {
            values.add(v);
        }
        return values;
    }

    private static void digestOfANewObject() {
        List<Integer> values = values(0, 0, 0, 0, 0, 0, 0, 0, 0, 0, 1, 2, 4);
        for (int k = 0; k < 3 + 6 + 4; k++) {
            values.add(-1);
        }
        due.is("digest() of a new object", new HoursByPost().digest(), digestOf(values));
    }

    private static void digestOfRowsAndTexts() {
        HoursByPost x = new HoursByPost();
        x.row(0, 0);
        x.row(5, 40);
        x.lay(5, 0, LEAST);
        x.lay(5, 39, GREATEST);
        x.row(2, 7);
        x.tear(2);
        x.text(0, 0);
        x.text(3, 80);
        x.put(3, 0, 128);
        x.put(3, 79, 127);
        List<Integer> values = values(0, 0, 0, 0, 0, 0, 2, 2, 0, 0, 1, 2, 4, -1, -1, -1, 0, -1, -1, -1, -1, 40, LEAST);
        for (int k = 1; k < 39; k++) {
            values.add(0);
        }
        values.addAll(List.of(GREATEST, 0, -1, -1, 80, -128));
        for (int k = 1; k < 79; k++) {
            values.add(32);
        }
        values.add(127);
        due.is("digest() of ROWS and TEXTS", x.digest(), digestOf(values));
        due.is("digest() again", x.digest(), digestOf(values));
    }

    private static List<Integer> oneDeed(int steps, int day, int keptHouses, int... kept) {
        List<Integer> values = values(1, 0, steps, 0, 0, 0, 0, 1, keptHouses, day, 1, 2, 4, 0, 2, 0, 0, 0);
        for (int k : kept) {
            values.add(k);
        }
        values.addAll(List.of(-1, -1, -1, -1, -1, -1, 3, (int) 'd', (int) 'e', (int) '0', -1, -1, -1));
        return values;
    }

    private static void digestOfKeptHouses() {
        HoursByPost x = Due.house("de0");
        due.is("digest(), none kept", x.digest(), digestOf(oneDeed(0, 0, 0, -1, -1, -1)));
        x.keep(1);
        due.is("digest(), one kept of no STEPS", x.digest(), digestOf(oneDeed(0, 0, 1, -1, 0, -1)));
        spend(x, 40);
        x.keep(2);
        due.is("digest(), one kept of 40 STEPS", x.digest(), digestOf(oneDeed(40, 40, 2, -1, 0, 40)));
        x.undo(7);
        x.keep(0);
        due.is("digest(), all kept", x.digest(), digestOf(oneDeed(7, 7, 3, 7, 0, 40)));
        x.house(0);
        due.is("digest(), kept HOUSES go", x.digest(), digestOf(oneDeed(0, 0, 0, -1, -1, -1)));
    }

    private static void digestOfRoutesAndDays() {
        HoursByPost x = Due.house("dn0hX92");
        x.route(0, 0);
        x.route(1, 9);
        x.route(2, 9);
        spend(x, 18);
        x.open(0, 0);
        List<Integer> values = values(1, 1, 19, 1, 1, 0, 0, 1, 0, 18, 0, 9, 9, 0, 1, 0, 1, 0, 23, 1, 18, 2, 0,
            -1, -1, -1, -1, -1, -1, -1, -1, -1, 7, 'd', 'n', '0', 'h', 'X', '9', '2', -1, -1, -1);
        due.is("digest() of a HOUSE", x.digest(), digestOf(values));
    }
}
