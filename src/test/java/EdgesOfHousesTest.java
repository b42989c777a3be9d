/** The edges that the document names of HOUSES and their TEXTS (promises 10 to 15), a test for each sentence. */
public final class EdgesOfHousesTest {
    private static final int NONE = -9;
    private static final String LETTERS = "dmslfp", THREE = "dd0dd0dd0", SIX = THREE + THREE;
    private static final String SEVEN_HOURS = "hA00hA00hA00hA00hA00hA00hA00";
    private static final Due due = new Due();

    public static void main(String[] args) {
        signsOfADeed();
        signsOfWhatIsNeeded();
        signsBehindSixDeeds();
        signsOfAnHour();
        signsBehindSevenHours();
        blanksAsManyAsWanted();
        noBlanksWithinItems();
        oneToSixDeeds();
        noneToSevenHours();
        faultsThatHaveAPlace();
        faultsAtTheEnd();
        theFirstFaultIsTold();
        longestHouse();
        houseIsAnew();
        houseIsReadOnce();
        houseLeavesTheRest();
        kindsAndLetters();
        lightOfEachHour();
        daysOnWhichHoursCome();
        deedFacts();
        needsInTheEnd();
        whereAnHourIs();
        markOfMeals();
        markOfSleeps();
        markOfLetters();
        markOfFeasts();
        markOfNaps();
        marksOfEachKind();
        routesFromNoughtToNine();
        routesJustWithoutSteps();
        due.end();
    }

    /**
     * Each byte behind a beginning: some make a HOUSE of it, some let it go on (its end comes too early
     * then), at all others there is a FAULT.
     */
    private static void next(String beginning, String whole, String on) {
        for (int half = 0; half < 2; half++) {
            HoursByPost x = new HoursByPost();
            Due.write(x, 0, beginning + "?");
            int end = beginning.length();
            for (int b = 128 * half; b < 128 * half + 128; b++) {
                x.put(0, end, b);
                int want = whole.indexOf(b) >= 0 ? NONE : on.indexOf(b) >= 0 ? end + 1 : end;
                due.is("fault of '" + beginning + "' and byte " + b, x.fault(0), want);
            }
        }
    }

    private static void faultIs(String text, int want) {
        HoursByPost x = new HoursByPost();
        Due.write(x, 1, text);
        due.is("fault of '" + text + "'", x.fault(1), want);
        if (want != NONE) {
            due.is("house of '" + text + "'", x.house(1), -4);
            due.is("count(0)", x.count(0), 0);
        }
    }

    private static void houseIs(String text, int deeds, int hours) {
        HoursByPost x = new HoursByPost();
        Due.write(x, 2, text);
        due.is("fault of '" + text + "'", x.fault(2), NONE);
        due.is("house of '" + text + "'", x.house(2), deeds);
        due.is("count(0)", x.count(0), deeds);
        due.is("count(1)", x.count(1), hours);
    }

    // "a letter, the LIGHT that it wants .., how many DEEDS that are there already it NEEDS (0 .. 3, one figure)"

    private static void signsOfADeed() {
        next("", "", LETTERS + " ");
        next("   ", "", LETTERS + " ");
        for (char letter : LETTERS.toCharArray()) {
            next("" + letter, "", "dne");
            next(letter + "d", "0", "123");
            next(letter + "n", "0", "123");
            next(letter + "e", "0", "123");
        }
        next("dd0", " ", LETTERS + "h");
        next("dd0 ", " ", LETTERS + "h");
        next("dd0dd", "0", "123");
    }

    // "these (one figure each, unlike)", "a DEED that is not there yet, or told twice in one"

    private static void signsOfWhatIsNeeded() {
        next("dd1", "", "");
        next("dd2", "", "");
        next("dd3", "", "");
        next("dd0me1", "0", "");
        next("dd0me10", " ", LETTERS + "h");
        next("dd0me2", "", "0");
        next("dd0me20", "", "");
        next("dd0dd0me1", "01", "");
        next("dd0dd0me2", "", "01");
        next("dd0dd0me20", "1", "");
        next("dd0dd0me21", "0", "");
        next("dd0dd0me3", "", "01");
        next("dd0dd0me301", "", "");
        next(THREE + "me1", "012", "");
        next(THREE + "me3", "", "012");
        next(THREE + "me30", "", "12");
        next(THREE + "me302", "1", "");
        next(THREE + "me320", "1", "");
        next(THREE + "me321", "0", "");
        next(THREE + "me3210", " ", LETTERS + "h");
        next(THREE + "dd0me1", "0123", "");
        next(THREE + "dd0dd0me1", "01234", "");
        next(THREE + "dd0dd0me34", "", "0123");
        next(THREE + "dd0dd0me343", "012", "");
    }

    // "a seventh DEED"

    private static void signsBehindSixDeeds() {
        next(THREE + "dd0dd0", " ", LETTERS + "h");
        next(SIX, " ", "h");
        next(SIX + " ", " ", "h");
    }

    // "h (104), which HOUR of the day it is (A .. X), the DAY on which it was sent (0 .. 9), the ROUTE (0 .. 2)"

    private static void signsOfAnHour() {
        next("dd0h", "", "ABCDEFGHIJKLMNOPQRSTUVWX");
        next("dd0hA", "", "0123456789");
        next("dd0hX", "", "0123456789");
        next("dd0hA0", "012", "");
        next("dd0hX9", "012", "");
        next("dd0hA00", " ", "h");
        next("dd0hA00 ", " ", "h");
    }

    // "an eighth HOUR, a DEED behind an HOUR"

    private static void signsBehindSevenHours() {
        next("dd0" + SEVEN_HOURS.substring(4), " ", "h");
        next("dd0" + SEVEN_HOURS, " ", "");
        next("dd0" + SEVEN_HOURS + " ", " ", "");
        next(SIX + SEVEN_HOURS, " ", "");
    }

    // "blanks (32) ahead, between, behind as many as wanted, none within items"

    private static void blanksAsManyAsWanted() {
        houseIs("dd0", 1, 0);
        houseIs("dd0hA00", 1, 1);
        houseIs("dd0me10hA00hB00", 2, 2);
        houseIs(" dd0 me10 hA00 hB00 ", 2, 2);
        for (int blanks : new int[] {1, 2, 40, 76, 77}) {
            houseIs(" ".repeat(blanks) + "dd0", 1, 0);
            houseIs("dd0" + " ".repeat(blanks), 1, 0);
        }
        for (int blanks : new int[] {1, 2, 72, 73}) {
            houseIs("dd0" + " ".repeat(blanks) + "hA00", 1, 1);
            houseIs("dd0" + " ".repeat(blanks) + "me10", 2, 0);
            houseIs("d" + "d0" + " ".repeat(blanks - 1) + "hA00", 1, 1);
        }
        houseIs("dd0hA00" + " ".repeat(69) + "hB00", 1, 2);
    }

    private static void noBlanksWithinItems() {
        faultIs("d d0", 1);
        faultIs("dd 0", 2);
        faultIs("dd0 m e10", 5);
        faultIs("dd0 me 10", 6);
        faultIs("dd0 me1 0", 7);
        faultIs("dd0 dd0 me2 01", 11);
        faultIs("dd0 dd0 me20 1", 12);
        faultIs("dd0 h A00", 5);
        faultIs("dd0 hA 00", 6);
        faultIs("dd0 hA0 0", 7);
    }

    // "First DEEDS (1 to 6)", "Then HOURS of the post (7 at most)"

    private static void oneToSixDeeds() {
        faultIs("", 0);
        for (int many = 1; many <= 6; many++) {
            houseIs("me0".repeat(many), many, 0);
            houseIs("me0 ".repeat(many), many, 0);
        }
        faultIs("me0".repeat(7), 18);
        faultIs("me0 ".repeat(7), 24);
        faultIs("me0".repeat(6) + "m", 18);
    }

    private static void noneToSevenHours() {
        for (int many = 0; many <= 7; many++) {
            houseIs("me0" + "hA00".repeat(many), 1, many);
            houseIs(SIX + " " + "hX92 ".repeat(many), 6, many);
        }
        faultIs("me0" + "hA00".repeat(8), 31);
        faultIs("me0 " + "hA00 ".repeat(8), 39);
        faultIs("me0" + "hA00".repeat(7) + "h", 31);
    }

    // "A FAULT is the first place at which it can't go on so (..: its place; the TEXT's size, if ..)"

    private static void faultsThatHaveAPlace() {
        faultIs("x", 0);
        faultIs("D", 0);
        faultIs("hA00", 0);
        faultIs("  hA00dd0", 2);
        faultIs("dx0", 1);
        faultIs("dd4", 2);
        faultIs("dd-", 2);
        faultIs("dd00", 3);
        faultIs("de10", 3);
        faultIs("dd0de11", 6);
        faultIs("dd0de19", 6);
        faultIs("dd0de200", 7);
        faultIs(THREE + "de3011", 14);
        faultIs("dd0hA00dd0", 7);
        faultIs("dd0hA00  me0", 9);
        faultIs("dd0hA000", 7);
    }

    private static void faultsAtTheEnd() {
        String whole = "dd0 dd0 dd0 me3012 hA00 hX92";
        String ends = "dd0|dd0 |dd0 dd0|dd0 dd0 |dd0 dd0 dd0|dd0 dd0 dd0 |dd0 dd0 dd0 me3012|dd0 dd0 dd0 me3012 "
            + "|dd0 dd0 dd0 me3012 hA00|dd0 dd0 dd0 me3012 hA00 |" + whole;
        java.util.List<String> houses = java.util.List.of(ends.split("\\|"));
        for (int size = 0; size <= whole.length(); size++) {
            String text = whole.substring(0, size);
            faultIs(text, houses.contains(text) ? NONE : size);
        }
        faultIs(" ", 1);
        faultIs(" ".repeat(80), 80);
        faultIs(" ".repeat(79) + "d", 80);
        faultIs(" ".repeat(78) + "dd", 80);
        faultIs("dd0" + " ".repeat(76) + "h", 80);
        faultIs("dd0" + " ".repeat(75) + "hA", 80);
        faultIs("dd0" + " ".repeat(74) + "hA0", 80);
        faultIs("dd0" + " ".repeat(76) + "x", 79);
    }

    private static void theFirstFaultIsTold() {
        faultIs("dd0 x y", 4);
        faultIs("dd4 hA00 dd0", 2);
        faultIs("dd0 hY99", 5);
        faultIs("dd0 hA09 x", 7);
        faultIs("x      ", 0);
    }

    private static void longestHouse() {
        String text = "dd0 me10 sn210 le3210 fe3321 pd3432  hA00  hX92  hF51  hG60  hR72  hS81  hT90 ";
        text += " ".repeat(80 - text.length());
        houseIs(text, 6, 7);
        HoursByPost x = Due.house(text);
        due.tells(x, "deed(5, 4)", x.deed(5, 4), 1, 31);
        due.tells(x, "hour(6, 0)", x.hour(6, 0), 1, 19);
        faultIs(text.substring(0, 79) + "h", 79);
    }

    // Promise 11: "A HOUSE by a TEXT (anew: DAY 0, no STEPS, ROUTES as at first; kept HOUSES go): how many DEEDS."

    private static void houseIsAnew() {
        HoursByPost x = Due.house("le0 me0 hA00 hB00 hC00 hD00");
        x.route(0, 0);
        x.route(1, 0);
        x.route(2, 0);
        x.keep(0);
        x.open(0, 0);
        x.open(1, -9);
        x.open(2, 1);
        x.send(3);
        x.day();
        x.keep(1);
        x.keep(2);
        due.is("house(0) anew", x.house(0), 2);
        int[] counts = {2, 4, 0, 0, 0, 1, 0, 1, 0};
        for (int what = 0; what <= 8; what++) {
            due.is("count(" + what + ")", x.count(what), counts[what]);
        }
        due.tells(x, "shelf()", x.shelf(), 0, 0);
        for (int k = 0; k < 3; k++) {
            due.finds(x, "on(" + k + ")", k, x.on(k), 1);
        }
        due.is("HOURS since a MEAL", x.mark(1, 1), 0);
        due.is("route(0, 1)", x.route(0, 1), 1);
        due.is("route(1, 2)", x.route(1, 2), 2);
        due.is("route(2, 4)", x.route(2, 4), 4);
        for (int h = 0; h < 4; h++) {
            due.tells(x, "hour(" + h + ", 3)", x.hour(h, 3), 1, 0);
            due.tells(x, "hour(" + h + ", 4)", x.hour(h, 4), 1, NONE);
        }
        x.day();
        x.open(0, -9);
        due.is("HOURS since a MEAL", x.mark(1, 1), 1);
        Due.write(x, 3, "fe0");
        due.is("house(3), fewer DEEDS", x.house(3), 1);
        due.is("HOURS since a MEAL anew", x.mark(0, 1), 0);
        due.is("deed(1, 0)", x.deed(1, 0), -1);
        due.is("hour(0, 0)", x.hour(0, 0), -1);
    }

    private static void houseIsReadOnce() {
        HoursByPost x = Due.house("le0 hA00");
        x.put(0, 0, 'm');
        x.put(0, 5, 'X');
        due.tells(x, "deed(0, 0), the TEXT has changed", x.deed(0, 0), 1, 3);
        due.tells(x, "hour(0, 0), the TEXT has changed", x.hour(0, 0), 1, 0);
        x.put(0, 0, 'x');
        due.is("house(0) with a FAULT", x.house(0), -4);
        due.tells(x, "deed(0, 0) stays", x.deed(0, 0), 1, 3);
        x.put(0, 0, 'f');
        x.fault(0);
        due.tells(x, "deed(0, 0) behind fault()", x.deed(0, 0), 1, 3);
        due.is("house(0)", x.house(0), 1);
        due.tells(x, "deed(0, 0) anew", x.deed(0, 0), 1, 4);
        due.tells(x, "hour(0, 0) anew", x.hour(0, 0), 1, 23);
    }

    private static void houseLeavesTheRest() {
        HoursByPost x = Due.house("le0 dn0 hA00 hM00 hC00");
        x.day();
        x.odds(1);
        Due.fill(x, 4, 8, 9);
        x.at(4, 5);
        x.at(4, 1);
        x.house(0);
        due.is("asked()", x.asked(), 9);
        due.is("upper()", x.upper(), 3);
        due.is("lower()", x.lower(), 4);
        due.is("finding()", x.finding(), 2);
        due.is("findings(2)", x.findings(2), 1);
        due.tells(x, "at(4, 0)", x.at(4, 0), 1, 8);
    }

    // "KINDS of DEEDS and letters", "An HOUR is of DAY light from 6 to 17, else of NIGHT"

    private static void kindsAndLetters() {
        HoursByPost x = Due.house("dd0 mn0 se0 le0 fe0 pe0");
        for (int kind = 0; kind <= 5; kind++) {
            due.tells(x, "deed(" + kind + ", 0)", x.deed(kind, 0), 1, kind);
        }
    }

    private static void lightOfEachHour() {
        for (int time = 0; time <= 23; time++) {
            HoursByPost x = Due.house("dd0 dn0 de0 h" + (char) ('A' + time) + "00");
            boolean isDay = time >= 6 && time <= 17;
            due.tells(x, "hour(0, 0) at " + time, x.hour(0, 0), 1, time);
            due.tells(x, "hour(0, 1) at " + time, x.hour(0, 1), 1, isDay ? 0 : 1);
            due.is("can(0) at " + time, x.can(0), isDay ? 5 : 6);
            due.is("why(0, 0) at " + time, x.why(0, 0), isDay ? 0 : 3);
            due.is("why(1, 0) at " + time, x.why(1, 0), isDay ? 3 : 0);
        }
    }

    // "It COMES on the DAY on which it was sent and the DAYS of its ROUTE later (1, 2, 4 at first)"

    private static void daysOnWhichHoursCome() {
        HoursByPost x = Due.house("de0 hA00 hA01 hA02 hA90 hA91 hA92");
        int[] first = {1, 2, 4, 10, 11, 13};
        for (int h = 0; h < 6; h++) {
            due.tells(x, "hour(" + h + ", 2)", x.hour(h, 2), 1, first[h]);
        }
        x.route(0, 0);
        x.route(1, 9);
        x.route(2, 3);
        int[] then = {0, 9, 3, 9, 18, 12};
        for (int h = 0; h < 6; h++) {
            due.tells(x, "hour(" + h + ", 2) by other ROUTES", x.hour(h, 2), 1, then[h]);
        }
    }

    // Promise 12: deed()

    private static void deedFacts() {
        HoursByPost x = Due.house("dd0 mn0 se210 hG00");
        int[][] facts = {{0, 0, 0, 0, 0}, {1, 1, 0, 0, 0}, {2, 2, 3, 0, 3}};
        for (int i = 0; i < 3; i++) {
            for (int what = 0; what <= 4; what++) {
                due.tells(x, "deed(" + i + ", " + what + ")", x.deed(i, what), 1, facts[i][what]);
            }
        }
        x.day();
        x.open(0, 0);
        due.tells(x, "deed(0, 3), DONE", x.deed(0, 3), 1, 1);
        due.tells(x, "deed(1, 3)", x.deed(1, 3), 1, 0);
        x.undo(1);
        due.tells(x, "deed(0, 3), undone", x.deed(0, 3), 1, 0);
    }

    private static void needsInTheEnd() {
        HoursByPost chain = Due.house("de0 de10 de11 de12 de13 de14");
        for (int i = 0; i < 6; i++) {
            due.tells(chain, "deed(" + i + ", 2) of a chain", chain.deed(i, 2), 1, i == 0 ? 0 : 1 << i - 1);
            due.tells(chain, "deed(" + i + ", 4) of a chain", chain.deed(i, 4), 1, (1 << i) - 1);
        }
        HoursByPost fork = Due.house("de0 de0 de11 de12 de10 de243");
        due.tells(fork, "deed(3, 4) of a fork", fork.deed(3, 4), 1, 2 + 4);
        due.tells(fork, "deed(4, 4) of a fork", fork.deed(4, 4), 1, 1);
        due.tells(fork, "deed(5, 2) of a fork", fork.deed(5, 2), 1, 8 + 16);
        due.tells(fork, "deed(5, 4) of a fork", fork.deed(5, 4), 1, 31);
    }

    // Promise 13: hour()

    private static void whereAnHourIs() {
        HoursByPost x = Due.house("de0 hA01 hB01 hC01");
        due.tells(x, "hour(0, 3) two DAYS ahead", x.hour(0, 3), 1, 0);
        x.day();
        due.tells(x, "hour(0, 3) the DAY ahead", x.hour(0, 3), 1, 0);
        x.day();
        due.tells(x, "hour(0, 3) the DAY on which it COMES", x.hour(0, 3), 1, 1);
        x.day();
        due.tells(x, "hour(0, 3) a DAY later", x.hour(0, 3), 1, 1);
        x.open(0, 0);
        x.open(1, -9);
        x.send(2);
        int[] where = {2, 2, 3};
        int[] deeds = {0, NONE, NONE};
        for (int h = 0; h < 3; h++) {
            due.tells(x, "hour(" + h + ", 3)", x.hour(h, 3), 1, where[h]);
            due.tells(x, "hour(" + h + ", 4)", x.hour(h, 4), 1, deeds[h]);
        }
        x.undo(3);
        for (int h = 0; h < 3; h++) {
            due.tells(x, "hour(" + h + ", 3), undone", x.hour(h, 3), 1, 1);
            due.tells(x, "hour(" + h + ", 4), undone", x.hour(h, 4), 1, NONE);
        }
    }

    // Promise 14: mark()

    private static void markOfMeals() {
        HoursByPost x = Due.house("me0 fe0 de0 hA00 hB00 hC00 hD00 hE00 hF00 hG00");
        x.day();
        for (int h = 0; h < 7; h++) {
            due.is("MEAL behind " + h + " HOURS in all", x.mark(0, 1), h);
            due.is("FEAST behind " + h + " HOURS in all", x.mark(1, 1), h);
            x.open(h, -9);
        }
        due.is("MEAL behind 7 HOURS in all", x.mark(0, 1), 7);
        x.undo(3);
        due.is("MEAL behind 2 HOURS, others undone", x.mark(0, 1), 2);
        x.open(2, 0);
        due.is("MEAL just DONE", x.mark(0, 1), 0);
        x.day();
        due.is("a DAY is no HOUR", x.mark(0, 1), 0);
        x.send(3);
        due.is("SENT BACK is not OPENED", x.mark(0, 1), 0);
        x.open(4, 2);
        due.is("one HOUR since", x.mark(0, 1), 1);
        x.open(5, -9);
        due.is("two HOURS since", x.mark(0, 1), 2);
        x.open(6, 1);
        due.is("a FEAST is a MEAL", x.mark(0, 1), 0);
    }

    private static void markOfSleeps() {
        HoursByPost x = Due.house("sn0 pd0 se10 de0 hT00 hU00 hF00 hG00 hX01 hA00 hM00");
        due.is("SLEEP without HOURS on the SHELF", x.mark(0, 2), 0);
        x.day();
        due.is("SLEEP of HOURS 19, 20, 5, 6, 0, 12", x.mark(0, 2), 3);
        due.is("NAP of these by day", x.mark(1, 2), 2);
        due.is("SLEEP that NEEDS another", x.mark(2, 2), 0);
        x.day();
        due.is("SLEEP with 23", x.mark(0, 2), 4);
        x.open(1, 0);
        due.is("SLEEP that is DONE", x.mark(0, 2), 0);
        due.is("SLEEP behind what it NEEDS", x.mark(2, 2), 3);
        x.open(2, -9);
        x.send(4);
        due.is("SLEEP in HOURS left", x.mark(2, 2), 1);
        HoursByPost all = Due.house("se0 hA00 hB00 hC00 hD00 hE00 hF00 hU00");
        all.day();
        due.is("SLEEP in all 7 HOURS", all.mark(0, 2), 7);
        all.send(6);
        due.is("SLEEP in 6 HOURS", all.mark(0, 2), 6);
        all.open(0, -9);
        due.is("SLEEP in 5 HOURS", all.mark(0, 2), 5);
    }

    private static void markOfLetters() {
        HoursByPost x = Due.house("le0 le10 le210 de210 de210 de3012");
        int[] needers = {5, 4, 1};
        for (int i = 0; i < 3; i++) {
            due.is("LETTER " + i, x.mark(i, 3), needers[i]);
        }
        HoursByPost chain = Due.house("le0 le10 le11");
        due.is("LETTER, not in the end", chain.mark(0, 3), 1);
        due.is("LETTER that none NEEDS", chain.mark(2, 3), 0);
    }

    private static void markOfFeasts() {
        HoursByPost x = Due.house("fe0 de0 de0 de0 de0 fe212 hA00 hB00 hC00 hD00 hE00 hF00");
        x.day();
        for (int k = 0; k < 4; k++) {
            due.is("FEAST behind " + k, x.mark(0, 4), k);
            due.is("FEAST that NEEDS two behind " + k, x.mark(5, 4), Math.max(0, k - 2));
            x.open(k, 1 + k);
        }
        due.is("FEAST behind 4", x.mark(0, 4), 4);
        due.is("FEAST that NEEDS two behind 4", x.mark(5, 4), 2);
        x.open(4, 0);
        due.is("FEAST counts another FEAST", x.mark(5, 4), 3);
    }

    private static void markOfNaps() {
        HoursByPost x = Due.house("pd0 pn0 pe0 hF00 hG00 hR92 hS00 hT00");
        due.is("NAP by day, of all HOURS", x.mark(0, 5), 2);
        due.is("NAP by night, of all HOURS", x.mark(1, 5), 3);
        due.is("NAP by either, of all HOURS", x.mark(2, 5), 5);
        x.day();
        x.open(1, 0);
        x.send(0);
        due.is("NAP by day, DONE", x.mark(0, 5), 2);
        due.is("NAP by night, one SENT BACK", x.mark(1, 5), 3);
        due.is("NAP of no HOURS", Due.house("pe0").mark(0, 5), 0);
    }

    private static void marksOfEachKind() {
        HoursByPost x = Due.house("de0 me0 se0 le0 fe0 pe0");
        String[] are = {"", "1", "2", "3", "14", "25"};
        int unlike = 0;
        for (int i = 0; i < 6; i++) {
            for (int kind = 1; kind <= 5; kind++) {
                String call = "mark(" + i + ", " + kind + ")";
                if (are[i].indexOf('0' + kind) >= 0) {
                    due.is(call, x.mark(i, kind), 0);
                } else {
                    due.finds(x, call, unlike, x.mark(i, kind), 3);
                    unlike++;
                }
            }
            due.is("mark(" + i + ", 0)", x.mark(i, 0), -1);
        }
    }

    // Promise 15: "The DAYS of a ROUTE (0 .. 2) are v (0 .. 9): what they were. BAD; STATE: there are STEPS."

    private static void routesFromNoughtToNine() {
        HoursByPost x = new HoursByPost();
        int[] was = {1, 2, 4};
        for (int k = 0; k <= 2; k++) {
            for (int v = 0; v <= 9; v++) {
                due.is("route(" + k + ", " + v + ")", x.route(k, v), was[k]);
                was[k] = v;
            }
            due.is("route(" + k + ", 10)", x.route(k, 10), -1);
            due.is("route(" + k + ", -1)", x.route(k, -1), -1);
            due.is("route(" + k + ", 0), as it was", x.route(k, 0), 9);
        }
    }

    private static void routesJustWithoutSteps() {
        HoursByPost x = Due.house("de0 hA00 hB00");
        due.is("route(0, 0) without STEPS", x.route(0, 0), 1);
        x.day();
        due.is("route behind a DAY", x.route(0, 1), -4);
        x.undo(0);
        due.is("route behind undo(0)", x.route(0, 0), 0);
        x.open(0, -9);
        due.is("route behind an HOUR OPENED for none", x.route(0, 1), -4);
        x.undo(0);
        x.send(1);
        due.is("route behind an HOUR SENT BACK", x.route(0, 1), -4);
        x.undo(1);
        due.is("route, the STEP is still there", x.route(0, 1), -4);
        x.undo(0);
        x.open(0, 0);
        due.is("route behind a DEED", x.route(0, 1), -4);
        x.house(0);
        due.is("route of a HOUSE anew", x.route(0, 5), 1);
    }
}
