import java.util.ArrayList;
import java.util.List;

/**
 * All that an object can tell of itself, call by call: what it tells as it is, then what it tells of
 * each kept HOUSE, and while its STEPS are undone. Two objects with like pictures are in like states.
 */
final class Picture {
    private final HoursByPost x;
    private final List<String> told = new ArrayList<>();

    private Picture(HoursByPost x) {
        this.x = x;
    }

    /** The calls with their answers; it is the last thing to be asked of an object, for it changes it. */
    static List<String> of(HoursByPost x) {
        Picture picture = new Picture(x);
        picture.asItIs();
        picture.ofDeeds();
        picture.ofHours();
        picture.ofRows();
        picture.ofSteps();
        picture.ofKept();
        return picture.told;
    }

    private void add(String call, long answer) {
        told.add(call + " = " + answer);
    }

    private void asItIs() {
        add("asked()", x.asked());
        add("upper()", x.upper());
        add("lower()", x.lower());
        add("digest()", x.digest());
        add("shelf()", x.shelf());
        add("asked()", x.asked());
        add("late()", x.late());
        add("most()", x.most());
        add("asked()", x.asked());
        add("shut()", x.shut());
    }

    private void ofDeeds() {
        for (int i = 0; i < x.count(0); i++) {
            for (int kind = 1; kind <= 5; kind++) {
                add("mark(" + i + ", " + kind + ")", x.mark(i, kind));
            }
            add("fewest(" + i + ")", x.fewest(i));
            add("waits(" + i + ")", x.waits(i));
            add("opens(" + i + ")", x.opens(i));
        }
    }

    private void ofHours() {
        for (int h = 0; h < x.count(1); h++) {
            add("can(" + h + ")", x.can(h));
        }
        for (int k = 0; k < 3; k++) {
            add("stolen(" + k + ", 1)", x.stolen(k, 1));
        }
    }

    private void ofRows() {
        for (int r = 0; r < 6; r++) {
            add("run(" + r + ")", x.run(r));
            add("forged(" + r + ")", x.forged(r));
        }
        for (int t = 0; t < 4; t++) {
            add("fault(" + t + ")", x.fault(t));
        }
    }

    private void ofSteps() {
        for (int n = x.count(2) - 1; n >= 0; n--) {
            add("undo(" + n + ")", x.undo(n));
            add("digest()", x.digest());
        }
        add("mark(1, 1) of no STEPS", x.mark(1, 1));
    }

    private void ofKept() {
        for (int k = 0; k < 3; k++) {
            add("on(" + k + ")", x.on(k));
            add("digest()", x.digest());
            add("mark(1, 1)", x.mark(1, 1));
            ofSteps();
        }
    }
}
