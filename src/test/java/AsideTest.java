import java.util.function.ToLongFunction;

/**
 * Calls that only tell something leave all else as it is: some change nothing, some asked(), one the chances.
 * Calls that change something leave the rest as it is: behind what takes the change back, all is as it was.
 */
public final class AsideTest {
    private static final Due due = new Due();

    public static void main(String[] args) {
        for (Scene scene : new Scene[] {Scene.EMPTY, Scene.LIVED, Scene.FULL}) {
            tellsNothing(scene);
            tellsByAsked(scene);
            tellsByChances(scene);
            papersTakenBack(scene);
            housesTakenBack(scene);
        }
        stepsTakenBack();
        due.end();
    }

    /** Behind the call, and behind what makes asked() and the chances alike again, both objects tell the same. */
    private static void leaves(Scene scene, String call, ToLongFunction<HoursByPost> made, ToLongFunction<HoursByPost> alike) {
        HoursByPost x = scene.make();
        HoursByPost twin = scene.make();
        due.is(scene + ": " + call + ", not refused", made.applyAsLong(x) == -1 ? 0 : 1, 1);
        alike.applyAsLong(x);
        alike.applyAsLong(twin);
        due.same(scene + ": behind " + call, Picture.of(x), Picture.of(twin));
    }

    private static void tellsNothing(Scene scene) {
        ToLongFunction<HoursByPost> nothing = x -> 0;
        leaves(scene, "fault(0)", x -> x.fault(0), nothing);
        leaves(scene, "fault(1)", x -> x.fault(1), nothing);
        leaves(scene, "undo(count(2))", x -> x.undo(x.count(2)), nothing);
        leaves(scene, "fewest(0)", x -> x.fewest(0), nothing);
        leaves(scene, "fewest(1)", x -> x.fewest(1), nothing);
        leaves(scene, "shut()", HoursByPost::shut, nothing);
        leaves(scene, "waits(0)", x -> x.waits(0), nothing);
        leaves(scene, "waits(1)", x -> x.waits(1), nothing);
        leaves(scene, "forged(0)", x -> x.forged(0), nothing);
        leaves(scene, "stolen(3, 1)", x -> x.stolen(3, 1), nothing);
        leaves(scene, "asked()", x -> x.asked() == -1 ? 0 : 1, nothing);
        leaves(scene, "upper()", HoursByPost::upper, nothing);
        leaves(scene, "lower()", HoursByPost::lower, nothing);
        leaves(scene, "finding()", HoursByPost::finding, nothing);
        leaves(scene, "digest()", x -> x.digest() == -1 ? 0 : 1, nothing);
        leaves(scene, "copy(2, 0, 2, 0, 3)", x -> x.copy(2, 0, 2, 0, 3), nothing);
        for (int k = 0; k <= 8; k++) {
            int what = k;
            leaves(scene, "count(" + k + ")", x -> x.count(what), nothing);
        }
        for (int k = 1; k <= 5; k++) {
            int f = k;
            leaves(scene, "findings(" + k + ")", x -> x.findings(f), nothing);
        }
        if (scene != Scene.EMPTY) {
            leaves(scene, "can(3)", x -> x.can(3), nothing);
            leaves(scene, "mark(0, 3)", x -> x.mark(0, 3), nothing);
            leaves(scene, "mark(1, 1)", x -> x.mark(1, 1), nothing);
            leaves(scene, "mark(2, 2)", x -> x.mark(2, 2), nothing);
        }
    }

    private static void tellsByAsked(Scene scene) {
        ToLongFunction<HoursByPost> alike = x -> x.at(2, 0);
        leaves(scene, "at(1, 0)", x -> x.at(1, 0), alike);
        leaves(scene, "mean(1)", x -> x.mean(1), alike);
        leaves(scene, "lay(2, 1, 99), as it was", x -> x.lay(2, 1, 99), alike);
        leaves(scene, "shelf()", HoursByPost::shelf, alike);
        leaves(scene, "opens(0)", x -> x.opens(0), alike);
        leaves(scene, "late()", HoursByPost::late, alike);
        leaves(scene, "run(0)", x -> x.run(0), alike);
        leaves(scene, "most()", HoursByPost::most, alike);
        leaves(scene, "diary(0)", x -> x.diary(0), alike);
        for (int k = 0; k <= 4; k++) {
            int what = k;
            leaves(scene, "deed(1, " + k + ")", x -> x.deed(1, what), alike);
            if (scene != Scene.EMPTY) {
                leaves(scene, "hour(3, " + k + ")", x -> x.hour(3, what), alike);
            }
        }
        if (scene != Scene.EMPTY) {
            leaves(scene, "run(1)", x -> x.run(1), alike);
            leaves(scene, "why(1, 3)", x -> x.why(1, 3), alike);
            leaves(scene, "why(0, 3)", x -> x.why(0, 3), alike);
        }
    }

    private static void tellsByChances(Scene scene) {
        leaves(scene, "odds(0)", x -> x.odds(0), x -> x.odds(1));
        leaves(scene, "odds(1)", x -> x.odds(1), x -> x.odds(0));
    }

    private static void papersTakenBack(Scene scene) {
        ToLongFunction<HoursByPost> alike = x -> x.at(2, 0);
        leaves(scene, "row(4, 40), tear(4)", x -> x.row(4, 40) + x.tear(4), alike);
        leaves(scene, "tear(0), row(0, 0)", x -> x.tear(0) + x.row(0, 0), alike);
        leaves(scene, "lay(2, 2, 8), lay(2, 2, -5)", x -> x.lay(2, 2, 8) + x.lay(2, 2, -5), alike);
        leaves(scene, "copies there and back", x -> x.copy(2, 0, 3, 7, 3) + x.copy(3, 0, 3, 7, 3), alike);
        leaves(scene, "text(1, 5), written anew", x -> {
            Due.write(x, 1, "le0 x");
            return x.count(7);
        }, alike);
        leaves(scene, "put(0, 0, 'z'), put(0, 0, 'l')", x -> x.put(0, 0, 'z') + x.put(0, 0, 'l'), alike);
        leaves(scene, "order(..) to a ROW, tear(4)", x -> {
            x.order(0, 4);
            return scene == Scene.EMPTY ? x.count(6) : x.tear(4);
        }, alike);
    }

    private static void housesTakenBack(Scene scene) {
        ToLongFunction<HoursByPost> nothing = x -> 0;
        if (scene == Scene.EMPTY) {
            leaves(scene, "route(1, 0), route(1, 7)", x -> x.route(1, 0) + x.route(1, 7), nothing);
            leaves(scene, "day(), undo(0)", x -> x.day() + x.undo(0), nothing);
            leaves(scene, "lots(20, 9), undo(0)", x -> x.lots(20, 9) + x.undo(0), nothing);
        } else {
            leaves(scene, "on(0), STEPS again", x -> {
                x.on(0);
                x.send(1);
                x.open(2, -9);
                for (int k = 0; k < (scene == Scene.FULL ? 36 : 1); k++) {
                    x.day();
                }
                return x.count(2);
            }, nothing);
            leaves(scene, "keep(0) of what is kept there", x -> {
                int steps = x.count(2);
                x.undo(2);
                x.keep(0);
                x.send(1);
                x.open(2, -9);
                while (x.count(2) < steps) {
                    x.day();
                }
                return x.count(8);
            }, nothing);
        }
    }

    private static void stepsTakenBack() {
        ToLongFunction<HoursByPost> nothing = x -> 0;
        leaves(Scene.LIVED, "day(), undo(5)", x -> x.day() + x.undo(5), nothing);
        leaves(Scene.LIVED, "open(3, 1), undo(5)", x -> x.open(3, 1) + x.undo(5), nothing);
        leaves(Scene.LIVED, "open(3, NONE), undo(5)", x -> x.open(3, -9) + x.undo(5), nothing);
        leaves(Scene.LIVED, "send(3), undo(5)", x -> x.send(3) + x.undo(5), nothing);
        leaves(Scene.LIVED, "lots(20, 9), undo(5)", x -> x.lots(20, 9) + x.undo(5), nothing);
        leaves(Scene.FULL, "undo(39), day()", x -> x.undo(39) + x.day(), nothing);
        leaves(Scene.FULL, "lots(20, 9) at 40 STEPS", x -> x.lots(20, 9), nothing);
    }
}
