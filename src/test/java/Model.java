import java.util.ArrayList;
import java.util.HashSet;
import java.util.List;
import java.util.Set;
import java.util.TreeMap;

/**
 * The document once more, as its words stand and without regard to speed: nothing is kept but the
 * measurements, all cuts are found anew for each call, and ODDS are counted by looking at every choice.
 */
final class Model {
    static final int NONE = -9;

    int builds;
    int price = 20;
    int reach = 1;
    final List<Integer> kinds = new ArrayList<>();
    /** By 10 * TEST + MACHINE: BUILD to measurement. */
    final TreeMap<Integer, TreeMap<Integer, Integer>> rows = new TreeMap<>();
    final List<Integer> alarms = new ArrayList<>();
    final Set<Integer> everCried = new HashSet<>();
    int finding;
    final int[] findings = new int[6];
    long upper;
    long lower = 1;
    long asked;
    boolean begun;
    int lo;
    int hi;
    int votes;
    int reruns;
    final List<Boolean> told = new ArrayList<>();

    int builds(int n) {
        if (n < 0 || n > 40 || n < builds) {
            return -1;
        }
        builds = n;
        return n;
    }

    int test(int kind) {
        if (kind < 0 || kind > 2) {
            return -1;
        }
        if (kinds.size() == 8) {
            return -2;
        }
        kinds.add(kind);
        return kinds.size() - 1;
    }

    int is(int test, int kind) {
        if (test < 0 || test >= kinds.size() || kind < 0 || kind > 2) {
            return -1;
        }
        return kind == 0 || kinds.get(test) == kind ? 1 : 0;
    }

    private boolean bad(int test, int machine) {
        return test < 0 || test >= kinds.size() || machine < 0 || machine > 3;
    }

    private int found(int f) {
        finding = f;
        findings[f]++;
        return -3;
    }

    private TreeMap<Integer, Integer> get(int test, int machine) {
        return rows.get(10 * test + machine);
    }

    int row(int test, int machine) {
        if (bad(test, machine)) {
            return -1;
        }
        return rows.put(10 * test + machine, new TreeMap<>()) == null ? 0 : 1;
    }

    int lay(int test, int machine, int build, int v) {
        if (bad(test, machine) || v != NONE && (v < 0 || v > 1000000)) {
            return -1;
        }
        if (get(test, machine) == null) {
            return found(1);
        }
        if (build < 0 || build > 39) {
            return found(2);
        }
        Integer was = v == NONE ? get(test, machine).remove(build) : get(test, machine).put(build, v);
        return was == null ? NONE : was;
    }

    int at(int test, int machine, int build) {
        if (bad(test, machine)) {
            return -1;
        }
        if (get(test, machine) == null) {
            return found(1);
        }
        if (build < 0 || build > 39) {
            return found(2);
        }
        return get(test, machine).getOrDefault(build, NONE);
    }

    int tear(int test, int machine) {
        if (bad(test, machine)) {
            return -1;
        }
        return rows.remove(10 * test + machine) == null ? found(1) : 1;
    }

    int copy(int test, int machine, int i, int other, int j, int n) {
        if (bad(test, machine) || bad(test, other)) {
            return -1;
        }
        if (n < 0) {
            return found(5);
        }
        if (get(test, machine) == null || get(test, other) == null) {
            return found(1);
        }
        if (i < 0 || j < 0 || (long) i + n > 40 || (long) j + n > 40) {
            return found(2);
        }
        TreeMap<Integer, Integer> taken = new TreeMap<>(get(test, machine));
        for (int k = 0; k < n; k++) {
            lay(test, other, j + k, taken.getOrDefault(i + k, NONE));
        }
        return 1;
    }

    private List<Integer> measured(int test, int machine) {
        return new ArrayList<>(get(test, machine).headMap(builds).keySet());
    }

    private int rankAt(int test, int machine, int build) {
        int v = get(test, machine).get(build);
        int rank = 0;
        for (int b : measured(test, machine)) {
            int w = get(test, machine).get(b);
            rank += w < v ? 2 : w == v ? 1 : 0;
        }
        return rank;
    }

    int rank(int test, int machine, int build) {
        if (bad(test, machine)) {
            return -1;
        }
        if (get(test, machine) == null) {
            return found(1);
        }
        if (build < 0 || build >= builds) {
            return found(2);
        }
        return get(test, machine).containsKey(build) ? rankAt(test, machine, build) : found(4);
    }

    int mean(int test, int machine) {
        if (bad(test, machine)) {
            return -1;
        }
        if (get(test, machine) == null) {
            return found(1);
        }
        List<Integer> counting = measured(test, machine);
        long sum = 0;
        for (int b : counting) {
            sum += get(test, machine).get(b);
        }
        return counting.isEmpty() ? found(4) : (int) (sum / counting.size());
    }

    int price(int p) {
        if (p < 0 || p > 1000) {
            return -1;
        }
        int was = price;
        price = p;
        return was;
    }

    /** A way to cut: where each SPAN begins among the MEASURED BUILDS (0 first), and what it costs. */
    record Way(int sum, List<Integer> starts) {
        boolean better(Way w) {
            if (w == null || sum != w.sum) {
                return w == null || sum < w.sum;
            }
            if (starts.size() != w.starts.size()) {
                return starts.size() < w.starts.size();
            }
            for (int i = 0; i < starts.size(); i++) {
                if (!starts.get(i).equals(w.starts.get(i))) {
                    return starts.get(i) < w.starts.get(i);
                }
            }
            return false;
        }
    }

    static int cost(List<Integer> ranks) {
        List<Integer> sorted = new ArrayList<>(ranks);
        sorted.sort(null);
        int middle = sorted.get(sorted.size() / 2);
        int cost = 0;
        for (int r : ranks) {
            cost += Math.abs(r - middle);
        }
        return cost;
    }

    /** Every way to cut is looked at: only for few. */
    static Way bestOfAll(List<Integer> ranks, int price) {
        int n = ranks.size();
        Way best = null;
        for (int set = 0; set < 1 << (n - 1); set++) {
            List<Integer> starts = new ArrayList<>(List.of(0));
            for (int k = 1; k < n; k++) {
                if ((set >> (k - 1) & 1) != 0) {
                    starts.add(k);
                }
            }
            int sum = price * (starts.size() - 1);
            for (int s = 0; s < starts.size(); s++) {
                sum += cost(ranks.subList(starts.get(s), s + 1 < starts.size() ? starts.get(s + 1) : n));
            }
            Way way = new Way(sum, starts);
            if (way.better(best)) {
                best = way;
            }
        }
        return best;
    }

    /** From the start on, the best way to cut each beginning, with all its cuts. */
    static Way bestByBeginnings(List<Integer> ranks, int price) {
        List<Way> best = new ArrayList<>();
        for (int end = 1; end <= ranks.size(); end++) {
            Way found = new Way(cost(ranks.subList(0, end)), List.of(0));
            for (int last = 1; last < end; last++) {
                List<Integer> starts = new ArrayList<>(best.get(last - 1).starts());
                starts.add(last);
                Way way = new Way(best.get(last - 1).sum() + price + cost(ranks.subList(last, end)), starts);
                if (way.better(found)) {
                    found = way;
                }
            }
            best.add(found);
        }
        return best.get(ranks.size() - 1);
    }

    private List<Integer> ranks(int test, int machine) {
        List<Integer> ranks = new ArrayList<>();
        for (int b : measured(test, machine)) {
            ranks.add(rankAt(test, machine, b));
        }
        return ranks;
    }

    private Way way(int test, int machine) {
        List<Integer> ranks = ranks(test, machine);
        if (ranks.isEmpty()) {
            return new Way(0, List.of());
        }
        return ranks.size() <= 9 ? bestOfAll(ranks, price) : bestByBeginnings(ranks, price);
    }

    private List<Integer> cutsOf(int test, int machine) {
        List<Integer> cuts = new ArrayList<>();
        for (int start : way(test, machine).starts()) {
            cuts.add(measured(test, machine).get(start));
        }
        if (!cuts.isEmpty()) {
            cuts.remove(0);
        }
        return cuts;
    }

    /** The SPANS, each with its MEASURED BUILDS. */
    private List<List<Integer>> spans(int test, int machine) {
        List<List<Integer>> spans = new ArrayList<>();
        List<Integer> all = measured(test, machine);
        List<Integer> starts = way(test, machine).starts();
        for (int s = 0; s < starts.size(); s++) {
            spans.add(all.subList(starts.get(s), s + 1 < starts.size() ? starts.get(s + 1) : all.size()));
        }
        return spans;
    }

    private int middleOf(int test, int machine, List<Integer> span) {
        List<Integer> sorted = new ArrayList<>(span);
        sorted.sort((a, b) -> rankAt(test, machine, a) - rankAt(test, machine, b));
        return get(test, machine).get(sorted.get(sorted.size() / 2));
    }

    private List<Integer> sizes(int test, int machine) {
        List<List<Integer>> spans = spans(test, machine);
        List<Integer> sizes = new ArrayList<>();
        for (int s = 1; s < spans.size(); s++) {
            sizes.add(middleOf(test, machine, spans.get(s)) - middleOf(test, machine, spans.get(s - 1)));
        }
        return sizes;
    }

    int cuts(int test, int machine) {
        if (bad(test, machine)) {
            return -1;
        }
        if (get(test, machine) == null) {
            return found(1);
        }
        asked = way(test, machine).sum();
        return cutsOf(test, machine).size();
    }

    int cut(int test, int machine, int i) {
        if (bad(test, machine)) {
            return -1;
        }
        if (get(test, machine) == null) {
            return found(1);
        }
        List<Integer> cuts = cutsOf(test, machine);
        return i < 0 || i >= cuts.size() ? NONE : cuts.get(i);
    }

    int middle(int test, int machine, int i) {
        if (bad(test, machine)) {
            return -1;
        }
        if (get(test, machine) == null) {
            return found(1);
        }
        List<List<Integer>> spans = spans(test, machine);
        return i < 0 || i >= spans.size() ? NONE : middleOf(test, machine, spans.get(i));
    }

    int size(int test, int machine, int i) {
        if (bad(test, machine)) {
            return -1;
        }
        if (get(test, machine) == null) {
            return found(1);
        }
        List<Integer> sizes = sizes(test, machine);
        if (i < 0 || i >= sizes.size()) {
            return NONE;
        }
        asked = sizes.get(i);
        return 1;
    }

    int reach(int r) {
        if (r < 0 || r > 5) {
            return -1;
        }
        int was = reach;
        reach = r;
        return was;
    }

    private boolean isOwn(int test, int machine, int i) {
        int cut = cutsOf(test, machine).get(i);
        int size = sizes(test, machine).get(i);
        boolean could = false;
        for (int m = 0; m < 4; m++) {
            if (m == machine || get(test, m) == null) {
                continue;
            }
            List<Integer> cuts = cutsOf(test, m);
            List<Integer> sizes = sizes(test, m);
            for (int k = 0; k < cuts.size(); k++) {
                boolean same = size > 0 && sizes.get(k) > 0 || size < 0 && sizes.get(k) < 0;
                if (same && Math.abs(cuts.get(k) - cut) <= reach) {
                    return false;
                }
            }
            boolean ahead = false;
            boolean behind = false;
            for (int b : measured(test, m)) {
                ahead |= b < cut;
                behind |= b >= cut;
            }
            could |= ahead && behind;
        }
        return could;
    }

    int own(int test, int machine, int i) {
        if (bad(test, machine)) {
            return -1;
        }
        if (get(test, machine) == null) {
            return found(1);
        }
        if (i < 0 || i >= cutsOf(test, machine).size()) {
            return NONE;
        }
        return isOwn(test, machine, i) ? 1 : 0;
    }

    private int undoing(int test, int machine, int i) {
        List<Integer> sizes = sizes(test, machine);
        Set<Integer> paired = new HashSet<>();
        for (int up = 0; up < sizes.size(); up++) {
            int with = NONE;
            for (int down = up + 1; down < sizes.size() && sizes.get(up) > 0 && with == NONE; down++) {
                int differ = Math.abs(sizes.get(up) - Math.abs(sizes.get(down)));
                if (sizes.get(down) < 0 && !paired.contains(down) && 10 * differ <= sizes.get(up)) {
                    with = down;
                    paired.add(down);
                }
            }
            if (up == i) {
                return with;
            }
        }
        return NONE;
    }

    int undone(int test, int machine, int i) {
        if (bad(test, machine)) {
            return -1;
        }
        if (get(test, machine) == null) {
            return found(1);
        }
        return kinds.get(test) != 1 ? found(3) : undoing(test, machine, i);
    }

    /** {how many choices are as bad, how many there are}, or null if there are above 20. */
    private long[] oddsOf(int test, int machine, int i) {
        List<Integer> ahead = spans(test, machine).get(i);
        List<Integer> behind = spans(test, machine).get(i + 1);
        int n = ahead.size() + behind.size();
        if (n > 20) {
            return null;
        }
        int[] ranks = new int[n];
        int sum = 0;
        for (int k = 0; k < n; k++) {
            int b = k < ahead.size() ? ahead.get(k) : behind.get(k - ahead.size());
            ranks[k] = rankAt(test, machine, b);
            sum += k < ahead.size() ? 0 : ranks[k];
        }
        long[] counts = new long[2];
        lookAtChoices(ranks, 0, behind.size(), sizes(test, machine).get(i) > 0 ? -sum : sum,
            sizes(test, machine).get(i) > 0 ? -1 : 1, counts);
        return counts;
    }

    /** left: how much sign times the ranks still to be chosen may be together, for the choice to be as bad. */
    private static void lookAtChoices(int[] ranks, int k, int toChoose, int left, int sign, long[] counts) {
        if (toChoose == 0) {
            counts[0] += left >= 0 ? 1 : 0;
            counts[1]++;
            return;
        }
        if (ranks.length - k < toChoose) {
            return;
        }
        lookAtChoices(ranks, k + 1, toChoose - 1, left - sign * ranks[k], sign, counts);
        lookAtChoices(ranks, k + 1, toChoose, left, sign, counts);
    }

    int odds(int test, int machine, int i) {
        if (bad(test, machine)) {
            return -1;
        }
        if (get(test, machine) == null) {
            return found(1);
        }
        if (i < 0 || i >= cutsOf(test, machine).size()) {
            return NONE;
        }
        long[] counts = oddsOf(test, machine, i);
        if (counts == null) {
            return 0;
        }
        long divisor = java.math.BigInteger.valueOf(counts[0]).gcd(java.math.BigInteger.valueOf(counts[1])).longValue();
        upper = counts[0] / divisor;
        lower = counts[1] / divisor;
        return 1;
    }

    int cry(int s, int u, int l) {
        if (s < 0 || s > 1000000 || u < 0 || u > 1000000 || l < 1 || l > 1000000) {
            return -1;
        }
        List<Integer> now = new ArrayList<>();
        for (int t = 0; t < kinds.size(); t++) {
            for (int m = 0; m < 4; m++) {
                if (kinds.get(t) == 2 || get(t, m) == null) {
                    continue;
                }
                List<Integer> cuts = cutsOf(t, m);
                List<Integer> sizes = sizes(t, m);
                for (int i = 0; i < cuts.size(); i++) {
                    boolean undone = kinds.get(t) == 1 && undoing(t, m, i) != NONE;
                    if (sizes.get(i) <= 0 || sizes.get(i) < s || undone || isOwn(t, m, i)) {
                        continue;
                    }
                    long[] odds = oddsOf(t, m, i);
                    int alarm = 1000 * t + 100 * m + cuts.get(i);
                    if ((odds == null || odds[0] * l <= u * odds[1]) && everCried.add(alarm)) {
                        now.add(alarm);
                    }
                }
            }
        }
        alarms.addAll(now);
        if (!now.isEmpty()) {
            asked = now.get(0);
        }
        return now.size();
    }

    int cried(int i) {
        return i < 0 || i >= alarms.size() || i >= 300 ? NONE : alarms.get(i);
    }

    int halve(int from, int to, int times) {
        if (from < 0 || from >= to || to >= builds || times != 1 && times != 3 && times != 5) {
            return -1;
        }
        begun = true;
        lo = from;
        hi = to;
        votes = times;
        reruns = 0;
        told.clear();
        return times * depth(from, to);
    }

    private static int depth(int from, int to) {
        int mid = from + (to - from) / 2;
        return to - from == 1 ? 0 : 1 + Math.max(depth(from, mid), depth(mid, to));
    }

    int asks() {
        return !begun ? -4 : hi - lo == 1 ? NONE : lo + (hi - lo) / 2;
    }

    int rerun(boolean slow) {
        if (!begun || hi - lo == 1) {
            return -4;
        }
        reruns++;
        told.add(slow);
        int still = votes - told.size();
        if (still == 0) {
            int slowOnes = 0;
            for (boolean b : told) {
                slowOnes += b ? 1 : 0;
            }
            int mid = asks();
            if (slowOnes > votes - slowOnes) {
                hi = mid;
            } else {
                lo = mid;
            }
            told.clear();
        }
        return still;
    }

    int found() {
        return !begun ? -4 : hi - lo == 1 ? hi : NONE;
    }

    int count(int what) {
        return what == 0 ? builds : what == 1 ? kinds.size() : what == 2 ? rows.size() : what == 3 ? alarms.size() : -1;
    }

    int findings(int f) {
        return f < 1 || f > 5 ? -1 : findings[f];
    }

    long digest() {
        List<Integer> all = new ArrayList<>(List.of(builds, price, reach));
        for (int t = 0; t < kinds.size(); t++) {
            all.add(kinds.get(t));
            for (int m = 0; m < 4; m++) {
                if (get(t, m) == null) {
                    all.add(-1);
                    continue;
                }
                for (int b = 0; b < 40; b++) {
                    all.add(get(t, m).getOrDefault(b, NONE));
                }
            }
        }
        all.addAll(List.of(alarms.size(), asks(), found(), reruns));
        long h = 17;
        for (int v : all) {
            h = 31 * h + v;
        }
        return h;
    }
}
