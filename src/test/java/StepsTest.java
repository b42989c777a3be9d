/** Promises 16 to 22: DAYS, HOURS opened and sent back, undoing, the SHELF, kept HOUSES. */
public final class StepsTest {
    private static final int NOTHING = 1;
    private static final Due due = new Due();

    public static void main(String[] args) {
        day();
        open();
        openByKinds();
        send();
        undo();
        shelf();
        keepAndOn();
        due.end();
    }

    private static void spend(HoursByPost x, int days) {
        for (int k = 0; k < days; k++) {
            x.day();
        }
    }

    private static void day() {
        due.is("day() without DEEDS", new HoursByPost().day(), -4);
        HoursByPost x = Due.house("de0");
        for (int k = 1; k <= 40; k++) {
            due.is("day()", x.day(), k);
        }
        due.is("day() at 40 STEPS", x.day(), -2);
        due.is("count(2)", x.count(2), 40);
        due.is("finding() of FULL", x.finding(), 0);
    }

    private static void open() {
        due.is("open of none", new HoursByPost().open(0, -9), -1);
        HoursByPost x = Due.house("dd0 de10 de0 hG00 hS00 hH00 hA01");
        due.is("open on its way", x.open(0, 0), -4);
        x.day();
        due.is("open(4, 0)", x.open(4, 0), -1);
        due.is("open(-1, 0)", x.open(-1, 0), -1);
        due.is("open(0, 3)", x.open(0, 3), -1);
        due.is("open(0, -1)", x.open(0, -1), -1);
        due.is("open(0, -8)", x.open(0, -8), -1);
        due.is("open, of another LIGHT", x.open(1, 0), -4);
        due.is("open, what it NEEDS not DONE", x.open(0, 1), -4);
        due.is("open(0, 0)", x.open(0, 0), 1);
        due.is("open(0, 1), OPENED already", x.open(0, 1), -4);
        due.is("open(2, 0), DONE already", x.open(2, 0), -4);
        due.is("open(1, 1)", x.open(1, 1), 3);
        due.is("open(2, -9)", x.open(2, -9), 3);
        due.is("count(2)", x.count(2), 4);
        due.is("count(4)", x.count(4), 3);
        x.day();
        due.is("open(3, 2)", x.open(3, 2), 7);
        HoursByPost y = Due.house("dd0 de10 hG00 hA00");
        spend(y, 40);
        due.is("open at 40 STEPS", y.open(0, 0), -2);
        due.is("open, STATE ahead of FULL", y.open(0, 1), -4);
        due.is("open, BAD ahead of all", y.open(2, 1), -1);
        due.is("open of none at 40 STEPS", y.open(1, -9), -2);
    }

    private static void openByKinds() {
        HoursByPost x = Due.house("me0 fe0 se0 pe0 hT00 hU00 hM00 hF00 hG00 hH00 hI00");
        x.day();
        due.is("MEAL first", x.open(0, 0), -4);
        due.is("SLEEP at 19", x.open(0, 2), -4);
        due.is("SLEEP at 20", x.open(1, 2), 4);
        due.is("MEAL behind one HOUR", x.open(2, 0), -4);
        due.is("NAP at 12", x.open(2, 3), 12);
        x.undo(2);
        due.is("none at 12", x.open(2, -9), 4);
        due.is("FEAST with one DEED", x.open(3, 1), -4);
        due.is("MEAL behind two HOURS", x.open(3, 0), 5);
        due.is("FEAST behind a MEAL", x.open(4, 1), -4);
        x.open(4, -9);
        due.is("FEAST behind a MEAL and an HOUR", x.open(5, 1), -4);
        x.open(5, -9);
        due.is("FEAST with two DEEDS", x.open(6, 1), 7);
        HoursByPost y = Due.house("se0 hF00 hG00 hA00");
        y.day();
        due.is("SLEEP at 6", y.open(1, 0), -4);
        due.is("SLEEP at 5", y.open(0, 0), 1);
        HoursByPost z = Due.house("le0 le0 le0 fe201 hA00 hB00 hC00 hD00 hE00 hF00");
        z.day();
        z.open(0, 0);
        z.open(1, 1);
        z.open(2, 2);
        due.is("FEAST: what it NEEDS is no company", z.open(3, 3), -4);
    }

    private static void send() {
        due.is("send of none", new HoursByPost().send(0), -1);
        HoursByPost x = Due.house("de0 hA00 hB00 hC00 hD01");
        due.is("send on its way", x.send(0), -4);
        x.day();
        due.is("send(1)", x.send(1), 2);
        due.is("send(1) again", x.send(1), -4);
        due.is("open(1, 0), SENT BACK", x.open(1, 0), -4);
        x.open(0, 0);
        due.is("send(0), OPENED", x.send(0), -4);
        due.is("send(4)", x.send(4), -1);
        due.is("send(-1)", x.send(-1), -1);
        x.day();
        due.is("send(2)", x.send(2), 1);
        due.is("count(4): SENT BACK is not OPENED", x.count(4), 1);
        spend(x, 40);
        due.is("send at 40 STEPS", x.send(3), -2);
        due.is("send, STATE ahead of FULL", x.send(2), -4);
        due.is("send, BAD ahead of FULL", x.send(9), -1);
    }

    private static void undo() {
        HoursByPost x = new HoursByPost();
        due.is("undo(0) of none", x.undo(0), 0);
        due.is("undo(1) of none", x.undo(1), -1);
        due.is("undo(-1)", x.undo(-1), -1);
        HoursByPost y = Due.house("le0 le0 me0 hA00 hB00 hC00 hD00");
        y.day();
        y.open(0, 0);
        y.open(1, 1);
        y.open(2, 2);
        y.send(3);
        y.day();
        due.is("undo(7)", y.undo(7), -1);
        due.is("undo(6)", y.undo(6), 0);
        due.is("undo(4)", y.undo(4), 2);
        due.tells(y, "shelf()", y.shelf(), 8, 1);
        due.is("HOURS since the MEAL", y.mark(2, 1), 0);
        due.is("undo(3)", y.undo(3), 1);
        due.is("HOURS in all", y.mark(2, 1), 2);
        due.is("count(3)", y.count(3), 2);
        due.tells(y, "hour(2, 3)", y.hour(2, 3), 1, 1);
        due.tells(y, "hour(2, 4)", y.hour(2, 4), 1, -9);
        due.is("open(3, 2)", y.open(3, 2), 7);
        due.is("undo(0)", y.undo(0), 4);
        due.tells(y, "shelf() at first", y.shelf(), 0, 0);
        due.is("count(3)", y.count(3), 0);
    }

    private static void shelf() {
        due.is("shelf() without DEEDS", new HoursByPost().shelf(), -4);
        HoursByPost x = Due.house("de0 hA00 hB01 hC02 hD10 hE00");
        due.tells(x, "shelf()", x.shelf(), 0, 0);
        x.day();
        due.tells(x, "shelf()", x.shelf(), 17, 1);
        x.open(0, -9);
        x.day();
        due.tells(x, "shelf()", x.shelf(), 26, 2);
        x.send(4);
        x.day();
        x.day();
        due.tells(x, "shelf()", x.shelf(), 14, 4);
    }

    private static void keepAndOn() {
        HoursByPost x = new HoursByPost();
        due.is("keep(0) without DEEDS", x.keep(0), -4);
        due.is("keep(3)", x.keep(3), -1);
        due.is("keep(-1)", x.keep(-1), -1);
        due.is("on(3)", x.on(3), -1);
        due.is("on(-1)", x.on(-1), -1);
        due.finds(x, "on(0), missing", 0, x.on(0), NOTHING);
        Due.write(x, 0, "de0 me0 hA00 hB00 hC00 hD01");
        x.house(0);
        x.route(1, 9);
        due.is("keep(2)", x.keep(2), 0);
        x.undo(0);
        x.route(1, 3);
        x.day();
        x.open(0, 0);
        x.send(1);
        due.is("keep(0)", x.keep(0), 3);
        long zero = digestAsHouse(x);
        x.undo(1);
        x.open(1, -9);
        x.day();
        due.is("keep(1)", x.keep(1), 3);
        due.is("count(8)", x.count(8), 3);
        due.is("on(0)", x.on(0), 3);
        due.is("as it was kept", digestAsHouse(x), zero);
        due.is("HOURS since", x.mark(1, 1), 1);
        due.is("undo goes on from there", x.undo(2), 1);
        due.tells(x, "shelf()", x.shelf(), 6, 1);
        due.is("on(2)", x.on(2), 0);
        due.is("ROUTES as kept", x.route(1, 0), 9);
        due.is("on(2) again", x.on(2), 0);
        due.is("what is kept stays", x.route(1, 0), 9);
        due.is("on(1)", x.on(1), 3);
        due.tells(x, "shelf()", x.shelf(), 5, 2);
        due.is("count(8) still", x.count(8), 3);
        x.keep(0);
        x.undo(0);
        due.is("on(0), kept anew", x.on(0), 3);
        due.tells(x, "shelf()", x.shelf(), 5, 2);
    }

    /** What the HOUSE tells of itself: kept HOUSES are left out. */
    private static long digestAsHouse(HoursByPost x) {
        long h = x.shelf();
        h = 31 * h + x.asked();
        for (int what = 0; what < 6; what++) {
            h = 31 * h + x.count(what);
        }
        for (int i = 0; i < x.count(0); i++) {
            x.deed(i, 3);
            h = 31 * h + x.asked();
        }
        for (int i = 0; i < x.count(1); i++) {
            for (int what = 2; what < 5; what++) {
                x.hour(i, what);
                h = 31 * h + x.asked();
            }
        }
        return h;
    }
}
