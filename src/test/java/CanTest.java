/** Promises 23 to 26: what can be. */
public final class CanTest {
    private static final Due due = new Due();

    public static void main(String[] args) {
        can();
        why();
        opens();
        late();
        due.end();
    }

    private static void can() {
        HoursByPost x = Due.house("dd0 dn0 se0 pe0 me0 de10 hM00 hA00 hT92 hU00");
        due.is("can(0) on its way", x.can(0), 9);
        due.is("can(1)", x.can(1), 14);
        due.is("can(2)", x.can(2), 10);
        due.is("can(4)", x.can(4), -1);
        due.is("can(-1)", x.can(-1), -1);
        x.day();
        x.open(0, 0);
        due.is("can(0) OPENED", x.can(0), 40);
        x.open(1, -9);
        due.is("can(0) behind two HOURS", x.can(0), 56);
        x.send(3);
        due.is("can(3) SENT BACK", x.can(3), 62);
        due.is("can of none", new HoursByPost().can(0), -1);
    }

    private static void why() {
        HoursByPost x = Due.house("dd0 ln0 sn210 fe11 me0 se0 hM00 hT00 hU00 hA00 hG00 hH00");
        x.day();
        due.tells(x, "it can", x.why(0, 0), 0, -9);
        due.tells(x, "LIGHT", x.why(0, 1), 3, -9);
        due.tells(x, "NEEDS, the first", x.why(2, 0), 2, 0);
        due.tells(x, "NEEDS", x.why(3, 0), 2, 1);
        due.tells(x, "KIND: MEAL", x.why(4, 0), 4, -9);
        due.tells(x, "KIND: SLEEP", x.why(5, 1), 4, -9);
        x.open(0, 0);
        due.tells(x, "DONE ahead of LIGHT", x.why(0, 1), 1, -9);
        due.tells(x, "NEEDS, the second", x.why(2, 2), 2, 1);
        x.open(1, 1);
        due.tells(x, "LIGHT ahead of KIND", x.why(2, 4), 3, -9);
        due.tells(x, "SLEEP at night", x.why(2, 2), 0, -9);
        due.tells(x, "KIND: FEAST without company", x.why(3, 2), 4, -9);
        due.tells(x, "MEAL behind two HOURS", x.why(4, 4), 0, -9);
        x.open(2, 2);
        due.tells(x, "FEAST with company", x.why(3, 3), 0, -9);
        due.is("why(6, 0)", x.why(6, 0), -1);
        due.is("why(-1, 0)", x.why(-1, 0), -1);
        due.is("why(0, 6)", x.why(0, 6), -1);
        due.is("why(0, -1)", x.why(0, -1), -1);
        due.is("asked() behind BAD", x.asked(), -9);
    }

    private static void opens() {
        HoursByPost x = Due.house("dd0 de10 de11 de0 de223 de10");
        due.tells(x, "opens(0)", x.opens(0), 4, 2 + 4 + 16 + 32);
        due.tells(x, "opens(1)", x.opens(1), 2, 4 + 16);
        due.tells(x, "opens(2)", x.opens(2), 1, 16);
        due.tells(x, "opens(3)", x.opens(3), 1, 16);
        due.tells(x, "opens(4)", x.opens(4), 0, 0);
        due.is("opens(6)", x.opens(6), -1);
        due.is("opens(-1)", x.opens(-1), -1);
    }

    private static void late() {
        due.is("late() without DEEDS", new HoursByPost().late(), -4);
        HoursByPost none = Due.house("de0");
        none.day();
        due.tells(none, "late() without HOURS", none.late(), 0, 0);
        HoursByPost x = Due.house("de0 hA00 hB92 hC50");
        due.tells(x, "late()", x.late(), 13, 3);
        x.day();
        due.tells(x, "late()", x.late(), 13, 2);
        x.open(0, -9);
        due.tells(x, "late(), OPENED", x.late(), 13, 2);
        for (int k = 0; k < 5; k++) {
            x.day();
        }
        x.send(2);
        due.tells(x, "late(), SENT BACK", x.late(), 13, 1);
    }
}
