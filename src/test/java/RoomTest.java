import java.lang.management.ManagementFactory;

/** What an object takes, and that its calls take no more: all calls of a run live in one room. */
public final class RoomTest {
    private static final long MOST_FOR_AN_OBJECT = 24_000;
    private static final com.sun.management.ThreadMXBean THREADS =
        (com.sun.management.ThreadMXBean) ManagementFactory.getThreadMXBean();

    public static void main(String[] args) {
        liveADay(new HoursByPost());
        long start = taken();
        HoursByPost x = new HoursByPost();
        long made = taken();
        for (int k = 0; k < 40; k++) {
            liveADay(x);
        }
        long lived = taken();
        long nothing = lived;
        nothing = taken() - nothing;
        long object = made - start - nothing;
        long calls = lived - made - nothing;
        System.out.println("an object takes " + object + " bytes, its calls " + calls);
        if (object > MOST_FOR_AN_OBJECT || calls > 0) {
            System.out.println("that is too much");
            System.exit(1);
        }
    }

    private static long taken() {
        return THREADS.getCurrentThreadAllocatedBytes();
    }

    /** Every call of the face, the dear ones with a full SHELF. */
    private static void liveADay(HoursByPost x) {
        write(x, "le0 me0 fe10 se0 pe0 de0 hA00 hB00 hC00 hD00 hE00 hF00 hG00");
        x.fault(0);
        x.house(0);
        x.route(0, 1);
        x.day();
        x.most();
        x.shut();
        for (int i = 0; i < 6; i++) {
            x.fewest(i);
            x.order(i, i);
            x.run(i);
            x.mean(i);
            x.diary(i);
            x.forged(i);
            x.waits(i);
            x.odds(i);
            x.opens(i);
            x.why(i, i);
            x.can(i);
            x.deed(i, i);
            x.hour(i, i);
            x.mark(i, i);
        }
        x.keep(0);
        x.open(0, 0);
        x.send(1);
        x.keep(1);
        x.undo(1);
        x.on(1);
        x.lots(20, 7);
        x.on(0);
        x.shelf();
        x.late();
        x.stolen(6, 20);
        x.row(0, 40);
        x.row(0, -1);
        x.lay(0, 1, 2);
        x.at(0, 1);
        x.copy(0, 0, 0, 1, 2);
        x.tear(0);
        x.asked();
        x.upper();
        x.lower();
        x.count(6);
        x.finding();
        x.findings(1);
        x.digest();
    }

    private static void write(HoursByPost x, String text) {
        x.text(0, text.length());
        for (int i = 0; i < text.length(); i++) {
            x.put(0, i, text.charAt(i));
        }
    }
}
