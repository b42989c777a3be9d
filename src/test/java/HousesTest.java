/** Promises 10 to 15: a FAULT, a HOUSE, its DEEDS and HOURS, marks, ROUTES. */
public final class HousesTest {
    private static final int NOTHING = 1, UNLIKE = 3;
    private static final String SIX = "dd0 md10 se0 ln210 fe3012 pn13";
    private static final Due due = new Due();

    public static void main(String[] args) {
        fault();
        house();
        deed();
        hour();
        mark();
        route();
        due.end();
    }

    private static void fault() {
        HoursByPost x = new HoursByPost();
        due.finds(x, "fault, missing", 0, x.fault(3), NOTHING);
        due.is("fault(4)", x.fault(4), -1);
        due.is("fault(-1)", x.fault(-1), -1);
        faultOf(x, "", 0);
        faultOf(x, "    ", 4);
        faultOf(x, "dd0", -9);
        faultOf(x, "   dd0   ", -9);
        faultOf(x, "dd0dn0de0me0se0le0", -9);
        faultOf(x, "fe0pe10", -9);
        faultOf(x, "dd0  de3", 8);
        faultOf(x, "dd0 de10 de210", -9);
        faultOf(x, "dd0 de10 de3102", 14);
        faultOf(x, "dd0 de10 de211", 13);
        faultOf(x, "dd0 de10 de2 10", 12);
        faultOf(x, "d d0", 1);
        faultOf(x, "dd 0", 2);
        faultOf(x, "Dd0", 0);
        faultOf(x, "hd0", 0);
        faultOf(x, "dx0", 1);
        faultOf(x, "dd4", 2);
        faultOf(x, "ddd", 2);
        faultOf(x, "de10", 3);
        faultOf(x, "dd0 h", 5);
        faultOf(x, "dd0 h ", 5);
        faultOf(x, "dd0 h@00", 5);
        faultOf(x, "dd0 hX92", -9);
        faultOf(x, "dd0 hY92", 5);
        faultOf(x, "dd0 hA:0", 6);
        faultOf(x, "dd0 hA/0", 6);
        faultOf(x, "dd0 hA03", 7);
        faultOf(x, "dd0 hA0 0", 7);
        faultOf(x, "dd0 hA00x", 8);
        faultOf(x, "dd0 hA00 dd0", 9);
        faultOf(x, " hA00 dd0", 1);
        faultOf(x, "dd0dd0dd0dd0dd0dd0 dd0", 19);
        faultOf(x, "dd0hA00hA00hA00hA00hA00hA00hA00", -9);
        faultOf(x, "dd0hA00hA00hA00hA00hA00hA00hA00 hA00", 32);
        faultOf(x, "dd0hA00hA00hA00hA00hA00hA00hA00 x", 32);
        x.text(0, 80);
        x.put(0, 77, 'd');
        x.put(0, 78, 'd');
        x.put(0, 79, '0');
        due.is("fault of 80 bytes", x.fault(0), -9);
        x.put(0, 79, -1);
        due.is("fault at the last of 80 bytes", x.fault(0), 79);
        for (String end : new String[] {"d", "de", "de1", "de0h", "de0hA", "de0hA0"}) {
            x.text(0, 80);
            for (int k = 0; k < end.length(); k++) {
                x.put(0, 80 - end.length() + k, end.charAt(k));
            }
            due.is("fault behind 80 bytes that end with " + end, x.fault(0), 80);
        }
    }

    private static void faultOf(HoursByPost x, String text, int want) {
        Due.write(x, 0, text);
        due.is("fault of '" + text + "'", x.fault(0), want);
        due.is("house of '" + text + "'", x.house(0) > 0 ? 1 : 0, want == -9 ? 1 : 0);
    }

    private static void house() {
        HoursByPost x = new HoursByPost();
        due.is("house(4)", x.house(4), -1);
        due.is("house(-1)", x.house(-1), -1);
        due.finds(x, "house, missing", 0, x.house(1), NOTHING);
        Due.write(x, 1, SIX + " hA00 hX92");
        x.route(1, 9);
        due.is("house(1)", x.house(1), 6);
        due.is("count(0)", x.count(0), 6);
        due.is("count(1)", x.count(1), 2);
        due.tells(x, "route as at first", x.hour(1, 2), 1, 13);
        x.route(0, 0);
        x.route(2, 7);
        x.open(0, 2);
        x.day();
        x.keep(0);
        x.keep(2);
        Due.write(x, 0, "dd0 x");
        long before = x.digest();
        due.is("house with a fault", x.house(0), -4);
        due.is("digest() as before", x.digest(), before);
        due.is("count(8)", x.count(8), 2);
        due.is("house(1) anew", x.house(1), 6);
        due.is("no STEPS", x.count(2), 0);
        due.is("nothing DONE", x.count(3), 0);
        due.is("nothing OPENED", x.count(4), 0);
        due.is("kept HOUSES go", x.count(8), 0);
        due.finds(x, "on(0)", 1, x.on(0), NOTHING);
        due.tells(x, "DAY 0", x.shelf(), 0, 0);
        due.is("route(0, 1)", x.route(0, 1), 1);
        due.is("route(2, 4)", x.route(2, 4), 4);
        due.tells(x, "no DEED in the HOUR", x.hour(0, 4), 1, -9);
    }

    private static void deed() {
        HoursByPost x = Due.house("dd0 me10 sn11 le210 fe3123 pe14 hG00");
        int[] kinds = {0, 1, 2, 3, 4, 5};
        int[] lights = {0, 2, 1, 2, 2, 2};
        int[] needs = {0, 1, 2, 3, 14, 16};
        int[] inTheEnd = {0, 1, 3, 3, 15, 31};
        for (int i = 0; i < 6; i++) {
            due.tells(x, "deed(" + i + ", 0)", x.deed(i, 0), 1, kinds[i]);
            due.tells(x, "deed(" + i + ", 1)", x.deed(i, 1), 1, lights[i]);
            due.tells(x, "deed(" + i + ", 2)", x.deed(i, 2), 1, needs[i]);
            due.tells(x, "deed(" + i + ", 3)", x.deed(i, 3), 1, 0);
            due.tells(x, "deed(" + i + ", 4)", x.deed(i, 4), 1, inTheEnd[i]);
        }
        x.day();
        x.open(0, 0);
        due.tells(x, "deed(0, 3), DONE", x.deed(0, 3), 1, 1);
        due.is("deed(6, 0)", x.deed(6, 0), -1);
        due.is("deed(-1, 0)", x.deed(-1, 0), -1);
        due.is("deed(0, 5)", x.deed(0, 5), -1);
        due.is("deed(0, -1)", x.deed(0, -1), -1);
        due.is("deed of none", new HoursByPost().deed(0, 0), -1);
    }

    private static void hour() {
        HoursByPost x = Due.house("de0 hF00 hG11 hR22 hS90 hA00");
        int[] times = {5, 6, 17, 18, 0};
        int[] nights = {1, 0, 0, 1, 1};
        int[] days = {1, 3, 6, 10, 1};
        for (int h = 0; h < 5; h++) {
            due.tells(x, "hour(" + h + ", 0)", x.hour(h, 0), 1, times[h]);
            due.tells(x, "hour(" + h + ", 1)", x.hour(h, 1), 1, nights[h]);
            due.tells(x, "hour(" + h + ", 2)", x.hour(h, 2), 1, days[h]);
            due.tells(x, "hour(" + h + ", 3)", x.hour(h, 3), 1, 0);
            due.tells(x, "hour(" + h + ", 4)", x.hour(h, 4), 1, -9);
        }
        x.day();
        due.tells(x, "hour(0, 3) on the SHELF", x.hour(0, 3), 1, 1);
        due.tells(x, "hour(1, 3) on its way", x.hour(1, 3), 1, 0);
        x.open(0, 0);
        x.send(4);
        due.tells(x, "hour(0, 3) OPENED", x.hour(0, 3), 1, 2);
        due.tells(x, "hour(0, 4)", x.hour(0, 4), 1, 0);
        due.tells(x, "hour(4, 3) SENT BACK", x.hour(4, 3), 1, 3);
        x.day();
        x.day();
        x.open(1, -9);
        due.tells(x, "hour(1, 3) OPENED for none", x.hour(1, 3), 1, 2);
        due.tells(x, "hour(1, 4) of none", x.hour(1, 4), 1, -9);
        due.is("hour(5, 0)", x.hour(5, 0), -1);
        due.is("hour(-1, 0)", x.hour(-1, 0), -1);
        due.is("hour(0, 5)", x.hour(0, 5), -1);
        due.is("hour(0, -1)", x.hour(0, -1), -1);
    }

    private static void mark() {
        HoursByPost x = Due.house("le0 me0 se0 fe10 pd0 le10 hU00 hM00 hF00 hA00 hH00 hT90 hC90");
        x.day();
        due.is("SLEEP in HOURS of the SHELF", x.mark(2, 2), 3);
        due.is("NAP as a SLEEP", x.mark(4, 2), 2);
        due.is("NAP: HOURS of its LIGHT", x.mark(4, 5), 2);
        due.is("LETTER that two NEED", x.mark(0, 3), 2);
        due.is("LETTER that none NEEDS", x.mark(5, 3), 0);
        due.is("MEAL", x.mark(1, 1), 0);
        x.open(0, 0);
        due.is("MEAL behind one HOUR", x.mark(1, 1), 1);
        due.is("FEAST as a MEAL", x.mark(3, 1), 1);
        due.is("FEAST does not count what it NEEDS", x.mark(3, 4), 0);
        x.open(1, -9);
        due.is("MEAL behind two HOURS", x.mark(1, 1), 2);
        x.open(2, 1);
        due.is("MEAL behind itself", x.mark(1, 1), 0);
        due.is("FEAST counts the MEAL", x.mark(3, 4), 1);
        x.open(3, 2);
        due.is("SLEEP that is DONE", x.mark(2, 2), 0);
        due.is("FEAST counts the SLEEP", x.mark(3, 4), 2);
        due.is("MEAL behind one HOUR more", x.mark(1, 1), 1);
        due.is("NAP: of all HOURS", x.mark(4, 5), 2);
        x.send(4);
        due.is("NAP in none of the SHELF", x.mark(4, 2), 0);
        due.is("mark(6, 1)", x.mark(6, 1), -1);
        due.is("mark(-1, 1)", x.mark(-1, 1), -1);
        due.is("mark(0, 0)", x.mark(0, 0), -1);
        due.is("mark(0, 6)", x.mark(0, 6), -1);
        HoursByPost y = Due.house("pn0 hA00 hM00 hT92");
        due.is("NAP by night", y.mark(0, 5), 2);
        int[][] unlike = {
            {0, 1}, {0, 2}, {0, 4}, {0, 5}, {1, 4}, {1, 2}, {1, 3}, {2, 5}, {2, 1}, {3, 2}, {4, 1}, {4, 4}};
        for (int k = 0; k < unlike.length; k++) {
            int i = unlike[k][0];
            int kind = unlike[k][1];
            due.finds(x, "mark(" + i + ", " + kind + ")", k, x.mark(i, kind), UNLIKE);
        }
    }

    private static void route() {
        HoursByPost x = new HoursByPost();
        due.is("route ahead of a HOUSE", x.route(0, 0), 1);
        due.is("route(1, 9)", x.route(1, 9), 2);
        due.is("route(2, 3)", x.route(2, 3), 4);
        due.is("route(2, 4)", x.route(2, 4), 3);
        due.is("route(3, 0)", x.route(3, 0), -1);
        due.is("route(-1, 0)", x.route(-1, 0), -1);
        due.is("route(0, 10)", x.route(0, 10), -1);
        due.is("route(0, -1)", x.route(0, -1), -1);
        HoursByPost y = Due.house("de0 hA00 hB01");
        y.route(0, 0);
        due.tells(y, "shelf() by a ROUTE of no DAYS", y.shelf(), 1, 0);
        y.day();
        due.is("route behind a STEP", y.route(0, 1), -4);
        due.is("route, BAD ahead of STATE", y.route(0, 10), -1);
        y.undo(0);
        due.is("route behind none", y.route(0, 3), 0);
        due.tells(y, "hour(0, 2)", y.hour(0, 2), 1, 3);
    }
}
