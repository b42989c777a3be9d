import java.util.ArrayList;
import java.util.List;
import java.util.Random;

/** Long runs of calls by lots: each answer is the one of the Model. */
public final class ModelTest {
    private static final int RUNS = 1000, CALLS = 512, MOST_IN_A_ROUND = 120, FAULT_TEXTS = 6000;
    private static int wrong = 0;

    private final Random lots;
    private final HoursByPost x = new HoursByPost();
    private final Model model = new Model();
    private final List<String> calls = new ArrayList<>();
    /** Calls of the object so far: nothing is promised behind 512. */
    private int used = 0;

    private ModelTest(long seed) {
        lots = new Random(seed);
    }

    public static void main(String[] args) {
        for (int run = 0; run < RUNS && wrong == 0; run++) {
            new ModelTest(run).runCalls();
        }
        for (int k = 0; k < FAULT_TEXTS && wrong == 0; k++) {
            new ModelTest(1000 + k).faultOfOneText();
        }
        System.out.println(wrong == 0 ? "all answers are as the model's" : "answers are not as the model's");
        if (wrong != 0) {
            System.exit(1);
        }
    }

    private void due(String call, long got, long want) {
        used++;
        calls.add(call + " = " + got);
        if (got != want) {
            wrong++;
            for (String line : calls.subList(Math.max(0, calls.size() - 120), calls.size())) {
                System.out.println(line);
            }
            System.out.println("the last one answered " + got + ", the model's answer is " + want);
        }
    }

    private void faultOfOneText() {
        int t = below(4);
        write(t, lots.nextInt(3) == 0 ? babble() : spoilt(houseText()));
        due("fault(" + t + ")", x.fault(t), model.fault(t));
    }

    private void runCalls() {
        if (lots.nextInt(8) != 0) {
            build();
        }
        while (used < CALLS - MOST_IN_A_ROUND && wrong == 0) {
            if (lots.nextInt(150) == 0) {
                build();
            }
            call(lots.nextInt(60));
            due("asked()", x.asked(), model.asked());
            if (lots.nextInt(8) == 0) {
                due("digest()", x.digest(), model.digest());
            }
        }
        due("upper()", x.upper(), model.upper());
        due("lower()", x.lower(), model.lower());
        for (int f = 0; f <= 6; f++) {
            due("findings(" + f + ")", x.findings(f), model.findings(f));
        }
    }

    // ---- numbers and texts by lots

    private int below(int n) {
        return lots.nextInt(n);
    }

    /** Mostly 0 to n - 1, at times one that is none. */
    private int about(int n) {
        int lot = lots.nextInt(40);
        if (lot == 0) {
            return -1;
        }
        if (lot == 1) {
            return n;
        }
        return lot == 2 ? (lots.nextBoolean() ? Integer.MIN_VALUE : Integer.MAX_VALUE) : below(Math.max(1, n));
    }

    private int aboutDeed() {
        return about(model.count(0));
    }

    private int aboutHour() {
        return about(model.count(1));
    }

    private int deedOrNone() {
        return below(4) == 0 ? -9 : aboutDeed();
    }

    private String blanks() {
        return " ".repeat(below(3) == 0 ? below(3) : below(2));
    }

    private String houseText() {
        StringBuilder text = new StringBuilder(blanks());
        int deeds = 1 + below(6);
        for (int i = 0; i < deeds; i++) {
            text.append("dmslfp".charAt(below(6))).append("dneee".charAt(below(5)));
            StringBuilder needs = new StringBuilder();
            int many = below(Math.min(i, below(3) == 0 ? 3 : 1) + 1);
            while (needs.length() < many) {
                String need = String.valueOf(below(i));
                if (needs.indexOf(need) < 0) {
                    needs.append(need);
                }
            }
            text.append(many).append(needs).append(blanks());
        }
        int hours = below(10) == 0 ? 0 : below(3) == 0 ? 7 : 1 + below(7);
        String times = below(2) == 0 ? "ABCDEFGHIJKLMNOPQRSTUVWX" : "AFGMRSTU";
        for (int h = 0; h < hours; h++) {
            text.append('h').append(times.charAt(below(times.length())));
            text.append(below(3) == 0 ? below(10) : below(2)).append(below(3)).append(blanks());
        }
        return text.length() > 80 ? text.substring(0, 80).trim() : text.toString();
    }

    private String spoilt(String text) {
        StringBuilder spoilt = new StringBuilder(text);
        int place = below(spoilt.length());
        String signs = " dmslfpnehAXY0123456789@x\u00ff";
        char sign = signs.charAt(below(signs.length()));
        switch (below(4)) {
            case 0 -> spoilt.setCharAt(place, sign);
            case 1 -> spoilt.insert(place, sign);
            case 2 -> spoilt.deleteCharAt(place);
            default -> spoilt.setLength(place);
        }
        return spoilt.length() > 80 ? spoilt.substring(0, 80) : spoilt.toString();
    }

    private String babble() {
        String[] parts = {"dd0", "me10", "fe201", "pn3012", "hA00", "hX92", " ", "d", "h", "0", "1", "e"};
        StringBuilder text = new StringBuilder();
        int many = below(16);
        for (int k = 0; k < many; k++) {
            text.append(parts[below(parts.length)]);
        }
        return text.length() > 80 ? text.substring(0, 80) : text.toString();
    }

    private void write(int t, String text) {
        calls.add("text " + t + ": '" + text + "'");
        used += 1 + text.length();
        x.text(t, text.length());
        model.text(t, text.length());
        for (int i = 0; i < text.length(); i++) {
            x.put(t, i, text.charAt(i));
            model.put(t, i, text.charAt(i));
        }
    }

    private void build() {
        int t = below(4);
        write(t, below(12) == 0 ? spoilt(houseText()) : houseText());
        due("house(" + t + ")", x.house(t), model.house(t));
        if (below(2) == 0) {
            for (int k = 0; k < 3; k++) {
                int v = below(3);
                due("route(" + k + ", " + v + ")", x.route(k, v), model.route(k, v));
            }
        }
    }

    private void fillRow(int r, int size, boolean ofPairs) {
        calls.add("row " + r);
        used += 2;
        x.row(r, size);
        model.row(r, size);
        for (int i = 0; i < size; i++) {
            int time = about(24);
            if (below(3) != 0 && model.count(1) > 0) {
                model.hour(below(model.count(1)), 0);
                time = model.asked();
            }
            int v = !ofPairs ? time : i % 2 == 0 ? aboutHour() : deedOrNone();
            due("lay(" + r + ", " + i + ", " + v + ")", x.lay(r, i, v), model.lay(r, i, v));
        }
        x.at(r, 0);
        model.at(r, 0);
        if (size == 0) {
            return;
        }
        due("asked()", x.asked(), model.asked());
    }

    // ---- one call

    private void call(int lot) {
        if (lot < 10) {
            callOfRows(lot);
        } else if (lot < 18) {
            callOfHouse(lot - 10);
        } else if (lot < 36) {
            callOfSteps(lot - 18);
        } else if (lot < 42) {
            callOfWhatCan(lot - 36);
        } else if (lot < 50) {
            callOfOrders(lot - 42);
        } else {
            callOfTheRest(lot - 50);
        }
    }

    private void callOfRows(int lot) {
        int r = about(6);
        int i = about(8);
        int v = below(3) == 0 ? lots.nextInt() : below(30) - 10;
        switch (lot) {
            case 0 -> {
                int n = about(below(5) == 0 ? 41 : 9);
                due("row(" + r + ", " + n + ")", x.row(r, n), model.row(r, n));
            }
            case 1, 2 -> due("lay(" + r + ", " + i + ", " + v + ")", x.lay(r, i, v), model.lay(r, i, v));
            case 3 -> due("at(" + r + ", " + i + ")", x.at(r, i), model.at(r, i));
            case 4 -> due("tear(" + r + ")", x.tear(r), model.tear(r));
            case 5, 6 -> {
                int to = about(6);
                int j = about(6);
                int n = about(6);
                due("copy(" + r + ", " + i + ", " + to + ", " + j + ", " + n + ")",
                    x.copy(r, i, to, j, n), model.copy(r, i, to, j, n));
            }
            case 7 -> due("mean(" + r + ")", x.mean(r), model.mean(r));
            case 8 -> {
                int t = about(4);
                due("put(" + t + ", " + i + ", " + v + ")", x.put(t, i, v), model.put(t, i, v));
            }
            default -> {
                int t = about(4);
                int n = about(82);
                if (below(4) == 0) {
                    due("text(" + t + ", " + n + ")", x.text(t, n), model.text(t, n));
                } else {
                    due("fault(" + t + ")", x.fault(t), model.fault(t));
                }
            }
        }
    }

    private void callOfHouse(int lot) {
        int i = aboutDeed();
        int h = aboutHour();
        int what = about(5);
        switch (lot) {
            case 0, 1 -> due("deed(" + i + ", " + what + ")", x.deed(i, what), model.deed(i, what));
            case 2, 3 -> due("hour(" + h + ", " + what + ")", x.hour(h, what), model.hour(h, what));
            case 4, 5, 6 -> due("mark(" + i + ", " + (what + 1) + ")", x.mark(i, what + 1), model.mark(i, what + 1));
            default -> due("route(" + what + ", " + h + ")", x.route(what, h), model.route(what, h));
        }
    }

    private void callOfSteps(int lot) {
        int h = aboutHour();
        int deed = deedOrNone();
        int k = about(3);
        switch (lot) {
            case 0, 1, 2 -> due("day()", x.day(), model.day());
            case 3, 4, 5, 6, 7, 8, 9 -> due("open(" + h + ", " + deed + ")", x.open(h, deed), model.open(h, deed));
            case 10 -> due("send(" + h + ")", x.send(h), model.send(h));
            case 11, 12 -> {
                int n = about(model.count(2) + 1);
                due("undo(" + n + ")", x.undo(n), model.undo(n));
            }
            case 13, 14 -> due("shelf()", x.shelf(), model.shelf());
            case 15, 16 -> due("keep(" + k + ")", x.keep(k), model.keep(k));
            default -> due("on(" + k + ")", x.on(k), model.on(k));
        }
    }

    private void callOfWhatCan(int lot) {
        int i = aboutDeed();
        int h = aboutHour();
        switch (lot) {
            case 0, 1 -> due("can(" + h + ")", x.can(h), model.can(h));
            case 2, 3 -> due("why(" + i + ", " + h + ")", x.why(i, h), model.why(i, h));
            case 4 -> due("opens(" + i + ")", x.opens(i), model.opens(i));
            default -> due("late()", x.late(), model.late());
        }
    }

    private void callOfOrders(int lot) {
        int i = aboutDeed();
        int r = about(6);
        switch (lot) {
            case 0 -> {
                int row = below(6);
                fillRow(row, below(10) == 0 ? below(17) : 2 * below(8), true);
                due("run(" + row + ")", x.run(row), model.run(row));
            }
            case 1 -> due("run(" + r + ")", x.run(r), model.run(r));
            case 2 -> due("most()", x.most(), model.most());
            case 3 -> due("fewest(" + i + ")", x.fewest(i), model.fewest(i));
            case 4, 5 -> {
                due("order(" + i + ", " + r + ")", x.order(i, r), model.order(i, r));
                due("digest()", x.digest(), model.digest());
            }
            case 6 -> due("shut()", x.shut(), model.shut());
            default -> due("waits(" + i + ")", x.waits(i), model.waits(i));
        }
    }

    private void callOfTheRest(int lot) {
        int i = aboutDeed();
        int r = about(6);
        int f = about(10);
        switch (lot) {
            case 0, 1 -> {
                int row = below(6);
                fillRow(row, below(9), false);
                due("diary(" + row + ")", x.diary(row), model.diary(row));
                due("forged(" + row + ")", x.forged(row), model.forged(row));
            }
            case 2 -> due("diary(" + r + ")", x.diary(r), model.diary(r));
            case 3 -> due("forged(" + r + ")", x.forged(r), model.forged(r));
            case 4 -> {
                int n = about(8);
                int day = about(below(3) == 0 ? 21 : 6);
                due("stolen(" + n + ", " + day + ")", x.stolen(n, day), model.stolen(n, day));
            }
            case 5, 6 -> {
                due("odds(" + i + ")", x.odds(i), model.odds(i));
                due("upper()", x.upper(), model.upper());
                due("lower()", x.lower(), model.lower());
            }
            case 7 -> {
                int n = below(4) == 0 ? about(22) : 1 + below(5);
                int seed = below(6) == 0 ? about(3) : lots.nextInt();
                due("lots(" + n + ", " + seed + ")", x.lots(n, seed), model.lots(n, seed));
            }
            case 8 -> due("count(" + f + ")", x.count(f), model.count(f));
            default -> due("finding()", x.finding(), model.finding());
        }
    }
}
