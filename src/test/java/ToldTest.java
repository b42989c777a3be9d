/** Promises 38 to 44: what is told. */
public final class ToldTest {
    private static final Due due = new Due();

    public static void main(String[] args) {
        asked();
        chances();
        count();
        findings();
        digest();
        due.end();
    }

    private static void asked() {
        HoursByPost x = Due.house("le0 me10 hA00 hB00 hM92");
        x.day();
        Due.fill(x, 0, 4, 4);
        x.lay(0, 0, 4);
        int told = x.asked();
        due.is("asked() of lay()", told, 4);
        x.row(1, 2);
        x.copy(0, 0, 1, 0, 1);
        x.text(2, 3);
        x.put(2, 0, 1);
        x.fault(2);
        x.house(2);
        x.mark(1, 1);
        x.route(0, 0);
        x.day();
        x.open(0, 0);
        x.send(1);
        x.undo(1);
        x.keep(0);
        x.on(0);
        x.can(0);
        x.fewest(1);
        x.order(1, 3);
        x.shut();
        x.waits(1);
        x.forged(0);
        x.stolen(0, 0);
        x.odds(0);
        x.lots(1, 1);
        x.count(0);
        x.finding();
        x.findings(1);
        x.digest();
        x.tear(1);
        due.is("asked() behind calls that tell nothing", x.asked(), told);
        x.at(0, 9);
        x.mean(9);
        x.deed(9, 0);
        x.hour(9, 0);
        x.why(9, 0);
        x.opens(9);
        x.run(5);
        x.diary(5);
        due.is("asked() behind refusals", x.asked(), told);
    }

    private static void chances() {
        HoursByPost x = Due.house("dn0 de0 hM00 hA00 hC00");
        x.day();
        x.odds(0);
        due.is("upper()", x.upper(), 3);
        due.is("lower()", x.lower(), 4);
        x.odds(9);
        x.shelf();
        x.open(1, 1);
        Due.write(x, 0, "de0");
        x.house(0);
        due.is("upper() stays", x.upper(), 3);
        due.is("lower() stays", x.lower(), 4);
        x.odds(0);
        due.is("upper() of none", x.upper(), 0);
        due.is("lower() of none", x.lower(), 1);
    }

    private static void count() {
        HoursByPost x = Due.house("le0 me10 fe0 se0 hA00 hB00 hC00 hM92");
        x.day();
        x.open(0, 0);
        x.open(1, -9);
        x.open(2, 1);
        x.row(3, 0);
        x.row(4, 2);
        x.text(3, 1);
        x.keep(1);
        int[] want = {4, 4, 4, 2, 3, 2, 2, 2, 1};
        for (int what = 0; what < want.length; what++) {
            due.is("count(" + what + ")", x.count(what), want[what]);
        }
        HoursByPost y = Due.house("me0 fe10 me0 de0");
        due.is("count(5), whatever is DONE", y.count(5), 3);
        due.is("count(9)", x.count(9), -1);
        due.is("count(-1)", x.count(-1), -1);
    }

    private static void findings() {
        HoursByPost x = new HoursByPost();
        due.is("findings(0)", x.findings(0), -1);
        due.is("findings(6)", x.findings(6), -1);
        due.is("findings(-1)", x.findings(-1), -1);
        x.at(0, 0);
        x.at(0, 0);
        x.row(0, 0);
        x.at(0, 0);
        due.is("finding()", x.finding(), 2);
        x.mean(0);
        x.row(0, -1);
        x.at(9, 0);
        x.shelf();
        int[] want = {2, 1, 0, 1, 1};
        for (int f = 1; f <= 5; f++) {
            due.is("findings(" + f + ")", x.findings(f), want[f - 1]);
        }
        due.is("finding() of the latest", x.finding(), 5);
        x.row(0, 1);
        x.at(0, 0);
        due.is("finding() stays", x.finding(), 5);
        Due.write(x, 0, "de0");
        x.house(0);
        x.mark(0, 1);
        due.is("finding() of a mark", x.finding(), 3);
        due.is("findings(3)", x.findings(3), 1);
    }

    private static void digest() {
        HoursByPost x = Due.house("le0 fn10 hA00 hM12");
        x.route(1, 7);
        x.day();
        x.open(0, 0);
        x.keep(2);
        Due.fill(x, 1, -5, 6);
        x.put(0, 17, 200);
        x.text(2, 0);
        int told = x.asked();
        int[] values = {
            2, 2, 2, 1, 1, 1, 1, 2, 1,
            1,
            1, 7, 4,
            3, 2, 0, 1, 0,
            4, 1, 1, 0, 1,
            0, 1, 1, 2, 0,
            12, 0, 5, 0, -9,
            -1, -1, 2,
            -1, 2, -5, 6, -1, -1, -1, -1,
            18, 'l', 'e', '0', ' ', 'f', 'n', '1', '0', ' ', 'h', 'A', '0', '0', ' ', 'h', 'M', '1', -56,
            -1, 0, -1};
        long h = 17;
        for (int v : values) {
            h = 31 * h + v;
        }
        due.is("digest()", x.digest(), h);
        x.row(5, 40);
        x.text(3, 80);
        x.put(3, 79, -128);
        int[] more = {
            2, 2, 2, 1, 1, 1, 2, 3, 1,
            1,
            1, 7, 4,
            3, 2, 0, 1, 0,
            4, 1, 1, 0, 1,
            0, 1, 1, 2, 0,
            12, 0, 5, 0, -9,
            -1, -1, 2,
            -1, 2, -5, 6, -1, -1, -1, 40};
        h = 17;
        for (int v : more) {
            h = 31 * h + v;
        }
        for (int k = 0; k < 40; k++) {
            h = 31 * h;
        }
        for (int k = values.length - 22; k < values.length - 1; k++) {
            h = 31 * h + values[k];
        }
        h = 31 * h + 80;
        for (int k = 0; k < 80; k++) {
            h = 31 * h + (k == 79 ? -128 : 32);
        }
        due.is("digest() with a ROW and a TEXT as long as can be", x.digest(), h);
        due.is("asked() behind digest()", x.asked(), told);
    }
}
