import java.util.ArrayList;
import java.util.Arrays;
import java.util.HashMap;
import java.util.List;
import java.util.Map;
import java.util.regex.Matcher;
import java.util.regex.Pattern;

/**
 * The document once more, in another way: all that has happened is a list of STEPS, everything else
 * is worked out from it anew at each call, and orders are tried one by one.
 */
final class Model {
    private static final int BAD = -1, FULL = -2, FINDING = -3, STATE = -4, NONE = -9;
    private static final int NOTHING = 1, BEYOND = 2, UNLIKE = 3, NOUGHT = 4, SIZE = 5;

    private record Deed(char letter, char light, List<Integer> needs) {
        boolean isMeal() {
            return letter == 'm' || letter == 'f';
        }
    }

    private record Hour(int time, int sent, int route) {
        boolean isDay() {
            return time >= 6 && time <= 17;
        }
    }

    /** kind: 'd' a DAY, 'o' an HOUR OPENED, 's' an HOUR SENT BACK. */
    private record Step(char kind, int hour, int deed) {
    }

    private record House(List<Step> steps, int[] routes) {
    }

    private final Map<Integer, int[]> rows = new HashMap<>();
    private final Map<Integer, byte[]> texts = new HashMap<>();
    private final Map<Integer, House> kept = new HashMap<>();
    private final List<Deed> deeds = new ArrayList<>();
    private final List<Hour> hours = new ArrayList<>();
    private List<Step> steps = new ArrayList<>();
    private int[] routes = {1, 2, 4};
    private final int[] found = new int[6];
    private int finding = 0;
    private int asked = 0;
    private long upper = 0;
    private long lower = 1;

    // ---- what is worked out

    private int find(int f) {
        finding = f;
        found[f]++;
        return FINDING;
    }

    private int tell(int v) {
        asked = v;
        return 1;
    }

    private static boolean out(int v, int first, int last) {
        return v < first || v > last;
    }

    private boolean noDeed(int i) {
        return out(i, 0, deeds.size() - 1);
    }

    private boolean noHour(int h) {
        return out(h, 0, hours.size() - 1);
    }

    private int today() {
        int day = 0;
        for (Step s : steps) {
            day += s.kind == 'd' ? 1 : 0;
        }
        return day;
    }

    private static boolean isDone(List<Step> lived, int deed) {
        for (Step s : lived) {
            if (s.kind == 'o' && s.deed == deed) {
                return true;
            }
        }
        return false;
    }

    private int doneBits(List<Step> lived) {
        int bits = 0;
        for (int i = 0; i < deeds.size(); i++) {
            bits |= isDone(lived, i) ? 1 << i : 0;
        }
        return bits;
    }

    private int sinceMeal(List<Step> lived) {
        int since = 0;
        for (Step s : lived) {
            if (s.kind == 'o') {
                since = s.deed != NONE && deeds.get(s.deed).isMeal() ? 0 : since + 1;
            }
        }
        return since;
    }

    private int comes(int h) {
        return hours.get(h).sent + routes[hours.get(h).route];
    }

    private int where(List<Step> lived, int h, int day) {
        for (Step s : lived) {
            if (s.kind != 'd' && s.hour == h) {
                return s.kind == 'o' ? 2 : 3;
            }
        }
        return comes(h) > day ? 0 : 1;
    }

    private List<Integer> shelfOn(List<Step> lived, int day) {
        List<Integer> shelf = new ArrayList<>();
        for (int h = 0; h < hours.size(); h++) {
            if (where(lived, h, day) == 1) {
                shelf.add(h);
            }
        }
        return shelf;
    }

    private static int bits(List<Integer> numbers) {
        int bits = 0;
        for (int n : numbers) {
            bits |= 1 << n;
        }
        return bits;
    }

    private int othersDone(List<Step> lived, int i) {
        int others = 0;
        for (int k = 0; k < deeds.size(); k++) {
            others += isDone(lived, k) && !deeds.get(i).needs.contains(k) ? 1 : 0;
        }
        return others;
    }

    private boolean lightFits(int i, int h) {
        char light = deeds.get(i).light;
        return light == 'e' || (light == 'd') == hours.get(h).isDay();
    }

    private int whyNot(List<Step> lived, int i, int h) {
        Deed deed = deeds.get(i);
        if (isDone(lived, i)) {
            return 1;
        }
        for (int k : deed.needs) {
            if (!isDone(lived, k)) {
                return 2;
            }
        }
        if (!lightFits(i, h)) {
            return 3;
        }
        int time = hours.get(h).time;
        boolean tooSoon = deed.isMeal() && sinceMeal(lived) < 2;
        boolean awake = deed.letter == 's' && time > 5 && time < 20;
        boolean alone = deed.letter == 'f' && othersDone(lived, i) < 2;
        return tooSoon || awake || alone ? 4 : 0;
    }

    private int allNeeds(int i) {
        int bits = 0;
        for (int k : deeds.get(i).needs) {
            bits |= 1 << k | allNeeds(k);
        }
        return bits;
    }

    // ---- orders, one by one

    /** Looks at orders of these HOURS; what is seen is told by the fields. */
    private final class Trial {
        private final List<Integer> pool;
        private final int wanted;
        private final Map<String, Boolean> seen = new HashMap<>();
        private int most = -1;
        private int mostHours = 0;
        private int fewest = NONE;

        Trial(List<Integer> pool, int wanted) {
            this.pool = pool;
            this.wanted = wanted;
        }

        private void go(List<Step> lived, int depth) {
            int done = doneBits(lived);
            int many = Integer.bitCount(done);
            if (many > most || many == most && depth < mostHours) {
                most = many;
                mostHours = depth;
            }
            if (wanted != NONE && (done >> wanted & 1) == 1 && (fewest == NONE || depth < fewest)) {
                fewest = depth;
            }
            List<Integer> left = new ArrayList<>(pool);
            for (Step s : lived) {
                left.remove((Integer) s.hour);
            }
            // With the same HOURS left, DEEDS DONE and HOURS since a MEAL nothing new comes, nor sooner.
            if (seen.put(left + " " + done + " " + Math.min(2, sinceMeal(lived)), true) != null) {
                return;
            }
            for (int h : left) {
                for (int i = -1; i < deeds.size(); i++) {
                    if (i < 0 || whyNot(lived, i, h) == 0) {
                        lived.add(new Step('o', h, i < 0 ? NONE : i));
                        go(lived, depth + 1);
                        lived.remove(lived.size() - 1);
                    }
                }
            }
        }
    }

    private Trial trial(List<Integer> pool, int deed) {
        Trial trial = new Trial(pool, deed);
        trial.go(new ArrayList<>(steps), 0);
        return trial;
    }

    private List<Integer> shelfNow() {
        return shelfOn(steps, today());
    }

    // ---- the calls

    int row(int r, int n) {
        if (out(r, 0, 5) || n > 40) {
            return BAD;
        }
        if (n < 0) {
            return find(SIZE);
        }
        rows.put(r, new int[n]);
        return n;
    }

    int lay(int r, int i, int v) {
        int answer = at(r, i);
        if (answer == 1) {
            rows.get(r)[i] = v;
        }
        return answer;
    }

    int at(int r, int i) {
        if (out(r, 0, 5)) {
            return BAD;
        }
        if (!rows.containsKey(r)) {
            return find(NOTHING);
        }
        return out(i, 0, rows.get(r).length - 1) ? find(BEYOND) : tell(rows.get(r)[i]);
    }

    int tear(int r) {
        if (out(r, 0, 5)) {
            return BAD;
        }
        return rows.remove(r) == null ? find(NOTHING) : 1;
    }

    int copy(int r, int i, int to, int j, int n) {
        if (out(r, 0, 5) || out(to, 0, 5)) {
            return BAD;
        }
        if (n < 0) {
            return find(SIZE);
        }
        if (!rows.containsKey(r) || !rows.containsKey(to)) {
            return find(NOTHING);
        }
        int[] from = rows.get(r).clone();
        int[] into = rows.get(to);
        if (i < 0 || j < 0 || n > from.length - (long) i || n > into.length - (long) j) {
            return find(BEYOND);
        }
        for (int k = 0; k < n; k++) {
            into[j + k] = from[i + k];
        }
        return 1;
    }

    int mean(int r) {
        if (out(r, 0, 5)) {
            return BAD;
        }
        if (!rows.containsKey(r)) {
            return find(NOTHING);
        }
        int[] row = rows.get(r);
        if (row.length == 0) {
            return find(NOUGHT);
        }
        return tell((int) (Arrays.stream(row).asLongStream().sum() / row.length));
    }

    int text(int t, int n) {
        if (out(t, 0, 3) || n > 80) {
            return BAD;
        }
        if (n < 0) {
            return find(SIZE);
        }
        byte[] text = new byte[n];
        Arrays.fill(text, (byte) ' ');
        texts.put(t, text);
        return n;
    }

    int put(int t, int i, int v) {
        if (out(t, 0, 3)) {
            return BAD;
        }
        if (!texts.containsKey(t)) {
            return find(NOTHING);
        }
        byte[] text = texts.get(t);
        if (out(i, 0, text.length - 1)) {
            return find(BEYOND);
        }
        int was = text[i];
        text[i] = (byte) v;
        return was + 1000;
    }

    int fault(int t) {
        if (out(t, 0, 3)) {
            return BAD;
        }
        return texts.containsKey(t) ? faultOf(signs(t)) : find(NOTHING);
    }

    private String signs(int t) {
        StringBuilder signs = new StringBuilder();
        for (byte b : texts.get(t)) {
            signs.append((char) (b & 255));
        }
        return signs.toString();
    }

    /** The longest beginning that some HOUSE has, sign by sign. */
    private static int faultOf(String text) {
        for (int end = 1; end <= text.length(); end++) {
            if (!mayBegin(text.substring(0, end))) {
                return end - 1;
            }
        }
        return isHouse(text) ? NONE : text.length();
    }

    /** Whether signs more could make it a HOUSE, a figure for what is NEEDED being looked at when it comes. */
    private static boolean mayBegin(String text) {
        String[] ends = {"", "d0", "e0", "0", "A00", "00"};
        for (String end : ends) {
            if (isHouse(text + end)) {
                return true;
            }
        }
        Matcher last = Pattern.compile("(.*?)([dmslfp][dne]([1-3])([0-9]{0,2}))").matcher(text);
        if (!last.matches()) {
            return text.isBlank() && text.chars().allMatch(c -> c == ' ');
        }
        String ahead = last.group(1);
        boolean aheadFits = ahead.chars().allMatch(c -> c == ' ')
            || isHouse(ahead) && !ahead.contains("h") && deedsOf(ahead).size() < 6;
        int there = ahead.chars().allMatch(c -> c == ' ') ? 0 : deedsOf(ahead).size();
        String needs = last.group(4);
        return aheadFits && needs.length() < last.group(3).charAt(0) - '0' && areUnlike(needs, there);
    }

    private static boolean areUnlike(String needs, int there) {
        return needs.chars().allMatch(c -> c - '0' < there) && needs.chars().distinct().count() == needs.length();
    }

    private static final Pattern DEED =
        Pattern.compile("([dmslfp])([dne])(?:0|1([0-9])|2([0-9]{2})|3([0-9]{3}))");
    private static final Pattern HOUR = Pattern.compile("h([A-X])([0-9])([0-2])");
    private static final Pattern HOUSE =
        Pattern.compile(" *(?:" + DEED.pattern() + " *){1,6}(?:" + HOUR.pattern() + " *){0,7}");

    private static boolean isHouse(String text) {
        if (!HOUSE.matcher(text).matches()) {
            return false;
        }
        List<Deed> read = deedsOf(text);
        for (int i = 0; i < read.size(); i++) {
            StringBuilder needs = new StringBuilder();
            for (int k : read.get(i).needs) {
                needs.append(k);
            }
            if (!areUnlike(needs.toString(), i)) {
                return false;
            }
        }
        return true;
    }

    private static List<Deed> deedsOf(String text) {
        List<Deed> read = new ArrayList<>();
        Matcher m = DEED.matcher(text);
        while (m.find()) {
            List<Integer> needs = new ArrayList<>();
            for (int g = 3; g <= 5; g++) {
                for (char c : (m.group(g) == null ? "" : m.group(g)).toCharArray()) {
                    needs.add(c - '0');
                }
            }
            read.add(new Deed(m.group(1).charAt(0), m.group(2).charAt(0), needs));
        }
        return read;
    }

    int house(int t) {
        if (out(t, 0, 3)) {
            return BAD;
        }
        if (!texts.containsKey(t)) {
            return find(NOTHING);
        }
        if (faultOf(signs(t)) != NONE) {
            return STATE;
        }
        deeds.clear();
        deeds.addAll(deedsOf(signs(t)));
        hours.clear();
        Matcher m = HOUR.matcher(signs(t));
        while (m.find()) {
            hours.add(new Hour(m.group(1).charAt(0) - 'A', m.group(2).charAt(0) - '0', m.group(3).charAt(0) - '0'));
        }
        steps = new ArrayList<>();
        routes = new int[] {1, 2, 4};
        kept.clear();
        return deeds.size();
    }

    private int deedFact(int i, int what) {
        Deed deed = deeds.get(i);
        return new int[] {"dmslfp".indexOf(deed.letter), "dne".indexOf(deed.light), bits(deed.needs),
            isDone(steps, i) ? 1 : 0, allNeeds(i)}[what];
    }

    private int hourFact(int h, int what) {
        int deed = NONE;
        for (Step s : steps) {
            deed = s.kind == 'o' && s.hour == h ? s.deed : deed;
        }
        return new int[] {hours.get(h).time, hours.get(h).isDay() ? 0 : 1, comes(h),
            where(steps, h, today()), deed}[what];
    }

    int deed(int i, int what) {
        return noDeed(i) || out(what, 0, 4) ? BAD : tell(deedFact(i, what));
    }

    int hour(int h, int what) {
        return noHour(h) || out(what, 0, 4) ? BAD : tell(hourFact(h, what));
    }

    int mark(int i, int kind) {
        if (noDeed(i) || out(kind, 1, 5)) {
            return BAD;
        }
        String[] letters = {"dmslfp", "mf", "sp", "l", "f", "p"};
        if (letters[kind].indexOf(deeds.get(i).letter) < 0) {
            return find(UNLIKE);
        }
        int many = 0;
        if (kind == 1) {
            many = sinceMeal(steps);
        } else if (kind == 2) {
            for (int h : shelfNow()) {
                many += whyNot(steps, i, h) == 0 ? 1 : 0;
            }
        } else if (kind == 3) {
            for (Deed deed : deeds) {
                many += deed.needs.contains(i) ? 1 : 0;
            }
        } else if (kind == 4) {
            many = othersDone(steps, i);
        } else {
            for (int h = 0; h < hours.size(); h++) {
                many += lightFits(i, h) ? 1 : 0;
            }
        }
        return many;
    }

    int route(int k, int v) {
        if (out(k, 0, 2) || out(v, 0, 9)) {
            return BAD;
        }
        if (!steps.isEmpty()) {
            return STATE;
        }
        int was = routes[k];
        routes[k] = v;
        return was;
    }

    int day() {
        if (deeds.isEmpty()) {
            return STATE;
        }
        if (steps.size() == 40) {
            return FULL;
        }
        steps.add(new Step('d', NONE, NONE));
        return today();
    }

    int open(int h, int deed) {
        if (noHour(h) || noDeed(deed) && deed != NONE) {
            return BAD;
        }
        if (!shelfNow().contains(h) || deed != NONE && whyNot(steps, deed, h) != 0) {
            return STATE;
        }
        if (steps.size() == 40) {
            return FULL;
        }
        steps.add(new Step('o', h, deed));
        return doneBits(steps);
    }

    int send(int h) {
        if (noHour(h)) {
            return BAD;
        }
        if (!shelfNow().contains(h)) {
            return STATE;
        }
        if (steps.size() == 40) {
            return FULL;
        }
        steps.add(new Step('s', h, NONE));
        return shelfNow().size();
    }

    int undo(int n) {
        if (out(n, 0, steps.size())) {
            return BAD;
        }
        int undone = steps.size() - n;
        steps = new ArrayList<>(steps.subList(0, n));
        return undone;
    }

    int shelf() {
        if (deeds.isEmpty()) {
            return STATE;
        }
        tell(today());
        return bits(shelfNow());
    }

    int keep(int k) {
        if (out(k, 0, 2)) {
            return BAD;
        }
        if (deeds.isEmpty()) {
            return STATE;
        }
        kept.put(k, new House(List.copyOf(steps), routes.clone()));
        return steps.size();
    }

    int on(int k) {
        if (out(k, 0, 2)) {
            return BAD;
        }
        if (!kept.containsKey(k)) {
            return find(NOTHING);
        }
        steps = new ArrayList<>(kept.get(k).steps);
        routes = kept.get(k).routes.clone();
        return steps.size();
    }

    int can(int h) {
        if (noHour(h)) {
            return BAD;
        }
        int can = 0;
        for (int i = 0; i < deeds.size(); i++) {
            can |= whyNot(steps, i, h) == 0 ? 1 << i : 0;
        }
        return can;
    }

    int why(int i, int h) {
        if (noDeed(i) || noHour(h)) {
            return BAD;
        }
        int why = whyNot(steps, i, h);
        int first = NONE;
        for (int k = deeds.size() - 1; k >= 0; k--) {
            first = why == 2 && deeds.get(i).needs.contains(k) && !isDone(steps, k) ? k : first;
        }
        tell(first);
        return why;
    }

    int opens(int i) {
        if (noDeed(i)) {
            return BAD;
        }
        int by = 0;
        for (int k = 0; k < deeds.size(); k++) {
            by |= (allNeeds(k) >> i & 1) == 1 ? 1 << k : 0;
        }
        tell(by);
        return Integer.bitCount(by);
    }

    int late() {
        if (deeds.isEmpty()) {
            return STATE;
        }
        int last = 0;
        int underWay = 0;
        for (int h = 0; h < hours.size(); h++) {
            last = Math.max(last, comes(h));
            underWay += comes(h) > today() ? 1 : 0;
        }
        tell(underWay);
        return last;
    }

    int run(int r) {
        if (out(r, 0, 5)) {
            return BAD;
        }
        if (deeds.isEmpty()) {
            return STATE;
        }
        if (!rows.containsKey(r)) {
            return find(NOTHING);
        }
        int[] row = rows.get(r);
        if (row.length % 2 == 1 || row.length > 14) {
            return find(SIZE);
        }
        for (int p = 0; p < row.length; p += 2) {
            if (noHour(row[p]) || noDeed(row[p + 1]) && row[p + 1] != NONE) {
                return find(UNLIKE);
            }
        }
        List<Step> lived = new ArrayList<>(steps);
        int pairs = 0;
        for (int p = 0; p < row.length; p += 2) {
            boolean there = shelfOn(lived, today()).contains(row[p]);
            if (!there || row[p + 1] != NONE && whyNot(lived, row[p + 1], row[p]) != 0) {
                break;
            }
            lived.add(new Step('o', row[p], row[p + 1]));
            pairs++;
        }
        tell(doneBits(lived));
        return pairs;
    }

    int most() {
        if (deeds.isEmpty()) {
            return STATE;
        }
        Trial trial = trial(shelfNow(), NONE);
        tell(trial.mostHours);
        return trial.most;
    }

    private static List<List<Integer>> subsets(List<Integer> all) {
        List<List<Integer>> subsets = new ArrayList<>();
        for (int bits = 0; bits < 1 << all.size(); bits++) {
            List<Integer> subset = new ArrayList<>();
            for (int k = 0; k < all.size(); k++) {
                if ((bits >> k & 1) == 1) {
                    subset.add(all.get(k));
                }
            }
            subsets.add(subset);
        }
        return subsets;
    }

    private boolean doable(List<Integer> pool, int i) {
        return trial(pool, i).fewest != NONE;
    }

    int fewest(int i) {
        if (noDeed(i)) {
            return BAD;
        }
        return trial(shelfNow(), i).fewest;
    }

    int order(int i, int r) {
        if (noDeed(i) || out(r, 0, 5)) {
            return BAD;
        }
        int many = fewest(i);
        if (many == NONE) {
            return NONE;
        }
        int[] pairs = new int[2 * many];
        List<Step> before = steps;
        List<Step> lived = new ArrayList<>(steps);
        for (int p = 0; p < many; p++) {
            Step next = firstPair(lived, i, many - p - 1);
            lived.add(next);
            pairs[2 * p] = next.hour;
            pairs[2 * p + 1] = next.deed;
        }
        steps = before;
        rows.put(r, pairs);
        return many;
    }

    /** The first pair behind which the DEED can be DONE in so many HOURS more. */
    private Step firstPair(List<Step> lived, int i, int more) {
        for (int h : shelfOn(lived, today())) {
            for (int deed = -1; deed < deeds.size(); deed++) {
                if (deed >= 0 && whyNot(lived, deed, h) != 0) {
                    continue;
                }
                Step step = new Step('o', h, deed < 0 ? NONE : deed);
                steps = new ArrayList<>(lived);
                steps.add(step);
                if (fewest(i) == more) {
                    return step;
                }
            }
        }
        throw new IllegalStateException("no pair");
    }

    int shut() {
        if (deeds.isEmpty()) {
            return STATE;
        }
        int most = trial(shelfNow(), NONE).most;
        int shut = 0;
        for (int h : shelfNow()) {
            List<Integer> without = shelfNow();
            without.remove((Integer) h);
            shut |= trial(without, NONE).most == most ? 1 << h : 0;
        }
        return shut;
    }

    int waits(int i) {
        if (noDeed(i)) {
            return BAD;
        }
        for (int day = today(); day <= 20; day++) {
            if (doable(shelfOn(steps, day), i)) {
                return day;
            }
        }
        return NONE;
    }

    private int diaryRefusal(int r) {
        if (out(r, 0, 5)) {
            return BAD;
        }
        if (deeds.isEmpty()) {
            return STATE;
        }
        if (!rows.containsKey(r)) {
            return find(NOTHING);
        }
        if (rows.get(r).length > 7) {
            return find(SIZE);
        }
        for (int time : rows.get(r)) {
            if (out(time, 0, 23)) {
                return find(UNLIKE);
            }
        }
        return 0;
    }

    /** The ways, one by one; the first HOURS of the ways are added. */
    private int ways(int[] times, int p, List<Integer> taken, List<Integer> firsts) {
        if (p == times.length) {
            if (p > 0) {
                firsts.add(taken.get(0));
            }
            return 1;
        }
        int ways = 0;
        for (int h = 0; h < hours.size(); h++) {
            if (hours.get(h).time == times[p] && !taken.contains(h)) {
                taken.add(h);
                ways += ways(times, p + 1, taken, firsts);
                taken.remove(taken.size() - 1);
            }
        }
        return ways;
    }

    int diary(int r) {
        int refusal = diaryRefusal(r);
        if (refusal != 0) {
            return refusal;
        }
        List<Integer> firsts = new ArrayList<>();
        int ways = ways(rows.get(r), 0, new ArrayList<>(), firsts);
        tell(firsts.stream().min(Integer::compare).orElse(NONE));
        return ways;
    }

    int forged(int r) {
        int refusal = diaryRefusal(r);
        if (refusal != 0) {
            return refusal;
        }
        int[] row = rows.get(r);
        for (int p = 0; p < row.length; p++) {
            if (ways(Arrays.copyOf(row, p + 1), 0, new ArrayList<>(), new ArrayList<>()) == 0) {
                return p;
            }
        }
        return NONE;
    }

    int stolen(int n, int day) {
        if (out(n, 0, 7) || out(day, 0, 20)) {
            return BAD;
        }
        List<Integer> come = shelfOn(List.of(), day);
        return come.size() - n == 1 ? bits(come) : 0;
    }

    int odds(int i) {
        if (noDeed(i)) {
            return BAD;
        }
        long all = 0;
        long fitting = 0;
        for (List<Integer> left : subsets(shelfNow())) {
            all++;
            fitting += doable(left, i) ? 1 : 0;
        }
        long divisor = 1;
        for (long d = 2; d <= all; d++) {
            divisor = all % d == 0 && fitting % d == 0 ? d : divisor;
        }
        upper = fitting / divisor;
        lower = all / divisor;
        return 1;
    }

    int lots(int n, int seed) {
        if (out(n, 1, 20) || out(seed, 1, 2147483646)) {
            return BAD;
        }
        if (deeds.isEmpty()) {
            return STATE;
        }
        int before = Integer.bitCount(doneBits(steps));
        long lot = seed;
        for (int k = 0; k < n && steps.size() < 40; k++) {
            lot = lot * 48271 % 2147483647;
            List<Integer> shelf = shelfNow();
            if (shelf.isEmpty()) {
                day();
                continue;
            }
            int h = shelf.get((int) (lot % shelf.size()));
            List<Integer> choices = new ArrayList<>();
            for (int i = 0; i < deeds.size(); i++) {
                if (whyNot(steps, i, h) == 0) {
                    choices.add(i);
                }
            }
            choices.add(NONE);
            open(h, choices.get((int) (lot / 64 % choices.size())));
        }
        return Integer.bitCount(doneBits(steps)) - before;
    }

    int asked() {
        return asked;
    }

    long upper() {
        return upper;
    }

    long lower() {
        return lower;
    }

    int count(int what) {
        if (out(what, 0, 8)) {
            return BAD;
        }
        int opened = 0;
        for (Step s : steps) {
            opened += s.kind == 'o' ? 1 : 0;
        }
        int meals = 0;
        for (Deed deed : deeds) {
            meals += deed.isMeal() ? 1 : 0;
        }
        return new int[] {deeds.size(), hours.size(), steps.size(), Integer.bitCount(doneBits(steps)), opened,
            meals, rows.size(), texts.size(), kept.size()}[what];
    }

    int finding() {
        return finding;
    }

    int findings(int f) {
        return out(f, 1, 5) ? BAD : found[f];
    }

    long digest() {
        List<Integer> values = new ArrayList<>();
        for (int what = 0; what <= 8; what++) {
            values.add(count(what));
        }
        values.add(today());
        for (int k = 0; k < 3; k++) {
            values.add(routes[k]);
        }
        for (int i = 0; i < deeds.size() * 5; i++) {
            values.add(deedFact(i / 5, i % 5));
        }
        for (int i = 0; i < hours.size() * 5; i++) {
            values.add(hourFact(i / 5, i % 5));
        }
        for (int k = 0; k < 3; k++) {
            values.add(kept.containsKey(k) ? kept.get(k).steps.size() : -1);
        }
        for (int r = 0; r < 6; r++) {
            values.add(rows.containsKey(r) ? rows.get(r).length : -1);
            for (int v : rows.getOrDefault(r, new int[0])) {
                values.add(v);
            }
        }
        for (int t = 0; t < 4; t++) {
            values.add(texts.containsKey(t) ? texts.get(t).length : -1);
            for (byte v : texts.getOrDefault(t, new byte[0])) {
                values.add((int) v);
            }
        }
        long h = 17;
        for (int v : values) {
            h = 31 * h + v;
        }
        return h;
    }
}
