/** Promises 27 to 32: orders, aside. */
public final class OrdersTest {
    private static final int NOTHING = 1, UNLIKE = 3, SIZE = 5;
    private static final Due due = new Due();

    public static void main(String[] args) {
        run();
        most();
        fewestAndOrder();
        shut();
        waits();
        aside();
        due.end();
    }

    private static void run() {
        HoursByPost none = new HoursByPost();
        due.is("run(6)", none.run(6), -1);
        due.is("run(-1)", none.run(-1), -1);
        due.is("run, STATE ahead of NOTHING", none.run(0), -4);
        HoursByPost x = Due.house("de0 me10 le0 hA00 hB00 hC00 hD92");
        x.day();
        due.finds(x, "run, missing", 0, x.run(0), NOTHING);
        Due.fill(x, 0, 9);
        due.finds(x, "run, not even", 0, x.run(0), SIZE);
        x.row(0, 16);
        due.finds(x, "run of 16", 1, x.run(0), SIZE);
        Due.fill(x, 0, 4, 0);
        due.finds(x, "run, no HOUR", 0, x.run(0), UNLIKE);
        Due.fill(x, 0, -9, 0);
        due.finds(x, "run, NONE for an HOUR", 1, x.run(0), UNLIKE);
        Due.fill(x, 0, 3, 0, 1, 3);
        due.finds(x, "run, no DEED behind a pair that can't go", 2, x.run(0), UNLIKE);
        Due.fill(x, 0, 0, -1);
        due.finds(x, "run, not NONE", 3, x.run(0), UNLIKE);
        Due.fill(x, 0, 0, 0, 1, 2, 2, 1);
        due.tells(x, "run of all", x.run(0), 3, 7);
        Due.fill(x, 0, 0, 0, 0, 2);
        due.tells(x, "run, an HOUR twice", x.run(0), 1, 1);
        Due.fill(x, 0, 0, 0, 3, -9, 1, 2);
        due.tells(x, "run, an HOUR on its way", x.run(0), 1, 1);
        Due.fill(x, 0, 0, 0, 1, 1, 2, 2);
        due.tells(x, "run, a MEAL too early", x.run(0), 1, 1);
        Due.fill(x, 0, 0, 0, 1, 0);
        due.tells(x, "run, a DEED twice", x.run(0), 1, 1);
        Due.fill(x, 0, 2, -9, 1, 0, 0, 1);
        due.tells(x, "run with none", x.run(0), 3, 3);
        x.row(0, 0);
        due.tells(x, "run of no pairs", x.run(0), 0, 0);
        x.row(0, 14);
        due.tells(x, "run of 14", x.run(0), 1, 1);
        x.open(0, 2);
        Due.fill(x, 0, 1, 0, 2, 1);
        due.tells(x, "run from what is DONE and OPENED", x.run(0), 2, 7);
    }

    private static void most() {
        due.is("most() without DEEDS", new HoursByPost().most(), -4);
        HoursByPost x = Due.house("le0 me0 fe10 hA00 hB00 hC00 hD00 hE00 hF00 hG02");
        due.tells(x, "most() of no HOURS", x.most(), 0, 0);
        x.day();
        due.tells(x, "most()", x.most(), 2, 3);
        x.open(0, 0);
        due.tells(x, "most(), one DONE", x.most(), 2, 2);
        x.open(1, -9);
        due.tells(x, "most(), two OPENED", x.most(), 2, 1);
        x.open(2, 1);
        due.tells(x, "most(), all that can be", x.most(), 2, 0);
        HoursByPost y = Due.house("se0 le0 me0 fe0 hA00 hB00 hC00 hD00 hE00 hF00");
        y.day();
        due.tells(y, "most() with a FEAST", y.most(), 4, 6);
        y.send(5);
        due.tells(y, "most() without one HOUR", y.most(), 3, 3);
    }

    private static void fewestAndOrder() {
        HoursByPost x = Due.house("dn0 de10 me11 dd0 hM00 hA00 hC00 hH00 hB92");
        x.row(3, 5);
        due.is("fewest(0) of no HOURS", x.fewest(0), -9);
        due.is("order(0, 3) of no HOURS", x.order(0, 3), -9);
        due.tells(x, "the ROW stays", x.at(3, 4), 1, 0);
        x.day();
        due.is("fewest(0)", x.fewest(0), 1);
        due.is("order(0, 3)", x.order(0, 3), 1);
        expectRow(x, 3, 1, 0);
        due.is("fewest(1)", x.fewest(1), 2);
        due.is("order(1, 0) to a missing ROW", x.order(1, 0), 2);
        expectRow(x, 0, 1, 0, 0, 1);
        due.is("fewest(2)", x.fewest(2), 3);
        due.is("order(2, 0)", x.order(2, 0), 3);
        expectRow(x, 0, 1, 0, 0, 1, 2, 2);
        due.tells(x, "run of it", x.run(0), 3, 7);
        due.is("fewest(3)", x.fewest(3), 1);
        due.is("order(3, 0)", x.order(3, 0), 1);
        expectRow(x, 0, 0, 3);
        x.open(1, 0);
        due.is("fewest(0), DONE", x.fewest(0), 0);
        due.is("order(0, 0), DONE", x.order(0, 0), 0);
        expectRow(x, 0);
        due.is("fewest(4)", x.fewest(4), -1);
        due.is("fewest(-1)", x.fewest(-1), -1);
        due.is("order(4, 0)", x.order(4, 0), -1);
        due.is("order(-1, 0)", x.order(-1, 0), -1);
        due.is("order(0, 6)", x.order(0, 6), -1);
        due.is("order(0, -1)", x.order(0, -1), -1);
        HoursByPost y = Due.house("me0 le0 hA00 hB00 hC00 hD00");
        y.day();
        due.is("order of a MEAL: none ahead of DEED 0", y.order(0, 5), 3);
        expectRow(y, 5, 0, -9, 1, -9, 2, 0);
    }

    private static void expectRow(HoursByPost x, int r, int... want) {
        for (int i = 0; i < want.length; i++) {
            due.tells(x, "at(" + r + ", " + i + ")", x.at(r, i), 1, want[i]);
        }
        due.is("at(" + r + ", " + want.length + ")", x.at(r, want.length), -3);
    }

    private static void shut() {
        due.is("shut() without DEEDS", new HoursByPost().shut(), -4);
        HoursByPost x = Due.house("dd0 dn0 hM00 hA00 hH00 hB02");
        due.is("shut() of no HOURS", x.shut(), 0);
        x.day();
        due.is("shut()", x.shut(), 5);
        x.open(0, 0);
        due.is("shut() behind a DEED", x.shut(), 4);
        x.open(1, 1);
        due.is("shut() behind all", x.shut(), 4);
    }

    private static void waits() {
        HoursByPost x = Due.house("de0 me10 dn0 sd0 hM00 hH01 hI92 hA50");
        due.is("waits(0)", x.waits(0), 1);
        due.is("waits(1)", x.waits(1), 6);
        due.is("waits(2)", x.waits(2), 6);
        due.is("waits(3), a SLEEP by day", x.waits(3), -9);
        x.day();
        x.open(0, 0);
        due.is("waits(0), DONE: today", x.waits(0), 1);
        x.send(0);
        x.day();
        x.send(1);
        due.is("waits(1) for the last HOUR", x.waits(1), 13);
        due.is("waits(4)", x.waits(4), -1);
        due.is("waits(-1)", x.waits(-1), -1);
        for (int k = 2; k < 20; k++) {
            x.day();
        }
        due.is("waits(2) on DAY 20", x.waits(2), 20);
        x.day();
        due.is("waits(2) on DAY 21", x.waits(2), -9);
        due.is("waits(0) on DAY 21", x.waits(0), -9);
        HoursByPost y = Due.house("de0 hA92");
        y.route(2, 9);
        due.is("waits(0) as long as can be", y.waits(0), 18);
    }

    private static void aside() {
        HoursByPost x = Due.house("le0 me0 fe10 hA00 hB00 hC00 hD00 hE00 hF00 hG02");
        x.day();
        x.row(0, 0);
        x.order(1, 0);
        long before = x.digest();
        x.run(0);
        x.most();
        x.fewest(1);
        x.order(1, 0);
        x.shut();
        x.waits(1);
        x.odds(1);
        due.is("digest() behind orders aside", x.digest(), before);
    }
}
