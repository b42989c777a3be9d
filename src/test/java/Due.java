import java.util.List;

/** Counts and prints the calls whose answer is not the one that is due. */
final class Due {
    private int wrong = 0;
    private int asked = 0;

    void is(String call, long got, long want) {
        asked++;
        if (got != want) {
            wrong++;
            System.out.println(call + " answered " + got + ", due is " + want);
        }
    }

    /** An answer together with what asked() tells behind it. */
    void tells(HoursByPost x, String call, long got, long want, long told) {
        is(call, got, want);
        is(call + "; asked()", x.asked(), told);
    }

    /** A FINDING, which finding() names, counted once more by findings(). */
    void finds(HoursByPost x, String call, int before, long got, int finding) {
        is(call, got, HoursByPost.FINDING);
        is(call + "; finding()", x.finding(), finding);
        is(call + "; findings(" + finding + ")", x.findings(finding), before + 1);
    }

    /** Two objects tell the same. */
    void same(String what, List<String> got, List<String> want) {
        asked++;
        for (int k = 0; k < Math.max(got.size(), want.size()); k++) {
            String one = k < got.size() ? got.get(k) : "nothing";
            String other = k < want.size() ? want.get(k) : "nothing";
            if (!one.equals(other)) {
                wrong++;
                System.out.println(what + ": " + one + ", due is " + other);
                return;
            }
        }
    }

    void end() {
        System.out.println(wrong == 0 ? asked + " answers are as due" : wrong + " answers are not as due");
        if (wrong != 0) {
            System.exit(1);
        }
    }

    static void write(HoursByPost x, int t, String text) {
        x.text(t, text.length());
        for (int i = 0; i < text.length(); i++) {
            x.put(t, i, text.charAt(i));
        }
    }

    static HoursByPost house(String text) {
        HoursByPost x = new HoursByPost();
        write(x, 0, text);
        if (x.house(0) < 1) {
            throw new IllegalStateException("no house: " + text);
        }
        return x;
    }

    static void fill(HoursByPost x, int r, int... values) {
        x.row(r, values.length);
        for (int i = 0; i < values.length; i++) {
            x.lay(r, i, values[i]);
        }
    }
}
