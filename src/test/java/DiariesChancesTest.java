/** Promises 33 to 37: diaries, thieves, chances, lots. */
public final class DiariesChancesTest {
    private static final int NOTHING = 1, UNLIKE = 3, SIZE = 5;
    private static final Due due = new Due();

    public static void main(String[] args) {
        diary();
        forged();
        stolen();
        odds();
        lots();
        due.end();
    }

    private static void diary() {
        HoursByPost none = new HoursByPost();
        due.is("diary(6)", none.diary(6), -1);
        due.is("diary(-1)", none.diary(-1), -1);
        due.is("diary, STATE ahead of NOTHING", none.diary(0), -4);
        HoursByPost x = Due.house("de0 hB00 hA00 hB92 hC00 hA00 hB00 hX00");
        due.finds(x, "diary, missing", 0, x.diary(0), NOTHING);
        x.row(0, 8);
        x.lay(0, 0, 99);
        due.finds(x, "diary, SIZE ahead of UNLIKE", 0, x.diary(0), SIZE);
        Due.fill(x, 0, 0, 24);
        due.finds(x, "diary of 24", 0, x.diary(0), UNLIKE);
        Due.fill(x, 0, -1);
        due.finds(x, "diary of -1", 1, x.diary(0), UNLIKE);
        x.row(0, 0);
        due.tells(x, "diary of none", x.diary(0), 1, -9);
        Due.fill(x, 0, 0, 1);
        due.tells(x, "diary of 0, 1", x.diary(0), 6, 1);
        Due.fill(x, 0, 23);
        due.tells(x, "diary of 23", x.diary(0), 1, 6);
        Due.fill(x, 0, 1, 0, 1, 2, 0, 1, 23);
        due.tells(x, "diary of all", x.diary(0), 12, 0);
        Due.fill(x, 0, 0, 0, 0);
        due.tells(x, "diary of one too many", x.diary(0), 0, -9);
        Due.fill(x, 0, 0, 0, 0, 0);
        due.tells(x, "diary of two too many", x.diary(0), 0, -9);
        Due.fill(x, 0, 0, 0, 0, 0, 9, 9);
        due.tells(x, "diary of many too many", x.diary(0), 0, -9);
        x.day();
        x.open(0, -9);
        x.send(3);
        Due.fill(x, 0, 1, 2);
        due.tells(x, "diary, whatever is OPENED", x.diary(0), 3, 0);
    }

    private static void forged() {
        HoursByPost none = new HoursByPost();
        due.is("forged(6)", none.forged(6), -1);
        due.is("forged(-1)", none.forged(-1), -1);
        due.is("forged, STATE", none.forged(0), -4);
        HoursByPost x = Due.house("de0 hB00 hA00 hB92 hC00");
        due.finds(x, "forged, missing", 0, x.forged(0), NOTHING);
        x.row(0, 8);
        due.finds(x, "forged, SIZE", 0, x.forged(0), SIZE);
        Due.fill(x, 0, 9, 24);
        due.finds(x, "forged, UNLIKE", 0, x.forged(0), UNLIKE);
        x.row(0, 0);
        int told = x.asked();
        due.is("forged of none", x.forged(0), -9);
        Due.fill(x, 0, 1, 0, 1, 2);
        due.is("forged of all", x.forged(0), -9);
        Due.fill(x, 0, 1, 0, 1, 1, 9);
        due.is("forged at 3", x.forged(0), 3);
        Due.fill(x, 0, 3);
        due.is("forged at 0", x.forged(0), 0);
        due.is("forged tells nothing", x.asked(), told);
    }

    private static void stolen() {
        due.is("stolen without HOURS", new HoursByPost().stolen(0, 20), 0);
        HoursByPost x = Due.house("de0 hA00 hB10 hC12 hD92");
        due.is("stolen(0, 0)", x.stolen(0, 0), 0);
        due.is("stolen(0, 1)", x.stolen(0, 1), 1);
        due.is("stolen(1, 1)", x.stolen(1, 1), 0);
        due.is("stolen(0, 2)", x.stolen(0, 2), 0);
        due.is("stolen(1, 2)", x.stolen(1, 2), 3);
        due.is("stolen(2, 12)", x.stolen(2, 12), 7);
        due.is("stolen(3, 12)", x.stolen(3, 12), 0);
        due.is("stolen(3, 13)", x.stolen(3, 13), 15);
        due.is("stolen(3, 20)", x.stolen(3, 20), 15);
        due.is("stolen(7, 20)", x.stolen(7, 20), 0);
        x.day();
        x.open(0, 0);
        due.is("stolen, whatever is OPENED", x.stolen(3, 20), 15);
        due.is("stolen(8, 0)", x.stolen(8, 0), -1);
        due.is("stolen(-1, 0)", x.stolen(-1, 0), -1);
        due.is("stolen(0, 21)", x.stolen(0, 21), -1);
        due.is("stolen(0, -1)", x.stolen(0, -1), -1);
    }

    private static void odds() {
        HoursByPost x = Due.house("dn0 de10 dd0 me0 hM00 hA00 hC00 hB92");
        chances(x, 0, 0, 1);
        x.day();
        chances(x, 0, 3, 4);
        chances(x, 1, 1, 2);
        chances(x, 2, 1, 2);
        chances(x, 3, 1, 8);
        x.open(1, 0);
        chances(x, 0, 1, 1);
        chances(x, 1, 3, 4);
        HoursByPost y = Due.house("se0 sd0 hA00 hB00 hC00 hM00 hN00 hO00 hP00");
        y.day();
        chances(y, 0, 7, 8);
        chances(y, 1, 0, 1);
        due.is("odds(4)", x.odds(4), -1);
        due.is("odds(-1)", x.odds(-1), -1);
        due.is("upper() behind BAD", x.upper(), 3);
        due.is("lower() behind BAD", x.lower(), 4);
    }

    private static void chances(HoursByPost x, int i, long upper, long lower) {
        due.is("odds(" + i + ")", x.odds(i), 1);
        due.is("upper()", x.upper(), upper);
        due.is("lower()", x.lower(), lower);
    }

    private static void lots() {
        HoursByPost none = new HoursByPost();
        due.is("lots without DEEDS", none.lots(1, 1), -4);
        due.is("lots(0, 1)", none.lots(0, 1), -1);
        due.is("lots(21, 1)", none.lots(21, 1), -1);
        due.is("lots(1, 0)", none.lots(1, 0), -1);
        due.is("lots(1, -5)", none.lots(1, -5), -1);
        due.is("lots(1, largest)", none.lots(1, Integer.MAX_VALUE), -1);
        HoursByPost x = Due.house("le0 le0 le0 hA00 hB00 hC00");
        // 48271: the SHELF is empty, a DAY goes by. 182605794: HOUR 0; by 64, cut, 2853215: 3 of 4, none.
        // 1291394886: the first of HOURS 1, 2; by 64, cut, 20178045: 1 of 4, DEED 1.
        due.is("lots(2, 1)", x.lots(2, 1), 0);
        due.tells(x, "hour(0, 3)", x.hour(0, 3), 1, 2);
        due.is("undo(0)", x.undo(0), 2);
        due.is("lots(3, 1)", x.lots(3, 1), 1);
        due.tells(x, "hour(1, 4)", x.hour(1, 4), 1, 1);
        due.is("count(2)", x.count(2), 3);
        due.is("lots goes on till 40 STEPS", x.lots(20, 9) + x.lots(20, 2147483646) >= 0 ? 1 : 0, 1);
        due.is("count(2) at the end", x.count(2), 40);
        due.is("lots at 40 STEPS", x.lots(20, 9), 0);
    }
}
