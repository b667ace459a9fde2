import java.util.Arrays;

/** A watch on speed: see README.md for its use, and the document for what each call promises. */
public final class SlowWatch {
    public static final int BAD = -1, FULL = -2, FINDING = -3, STATE = -4, NONE = -9;

    private static final int NOTHING = 1, BEYOND = 2, UNLIKE = 3, NOUGHT = 4, SIZE = 5;
    private static final int PLAIN = 0, PAIRED = 1, QUIET = 2;
    private static final int PLACES = 40;
    private static final int MOST_TESTS = 8;
    private static final int MACHINES = 4;
    private static final int MILLION = 1000000;
    private static final int MOST_PRICE = 1000;
    private static final int MOST_REACH = 5;
    private static final int KEPT_ALARMS = 300;

    private final Test[] tests = new Test[MOST_TESTS];
    private final int[] findingCounts = new int[SIZE + 1];
    private final int[] keptAlarms = new int[KEPT_ALARMS];
    private final Cutter cutter = new Cutter();
    private final Halving halving = new Halving();
    private Chances chances;
    private int buildCount;
    private int testCount;
    private int cutPrice = 20;
    private int stepReach = 1;
    private int alarmCount;
    private int latestFinding;
    private long oddsUpper;
    private long oddsLower = 1;
    private long told;

    public SlowWatch() {
    }

    // ---- 1 builds, tests, rows

    public int builds(int n) {
        if (n < buildCount || n > PLACES) {
            return BAD;
        }
        buildCount = n;
        return n;
    }

    public int test(int kind) {
        if (!isKind(kind)) {
            return BAD;
        }
        if (testCount >= MOST_TESTS) {
            return FULL;
        }
        tests[testCount] = new Test(kind);
        testCount++;
        return testCount - 1;
    }

    public int is(int test, int kind) {
        Test found = findTest(test);
        if (found == null || !isKind(kind)) {
            return BAD;
        }
        return kind == PLAIN || kind == found.kind ? 1 : 0;
    }

    public int row(int test, int machine) {
        Row row = findRow(test, machine);
        if (row == null) {
            return BAD;
        }
        int before = row.there ? 1 : 0;
        row.empty();
        row.there = true;
        return before;
    }

    public int lay(int test, int machine, int build, int v) {
        Row row = findRow(test, machine);
        if (row == null || v != NONE && !isWithin(v, MILLION)) {
            return BAD;
        }
        if (!row.there) {
            return refuseWith(NOTHING);
        }
        if (!isPlace(build)) {
            return refuseWith(BEYOND);
        }
        int before = row.values[build];
        row.values[build] = v;
        row.changed = true;
        return before;
    }

    public int at(int test, int machine, int build) {
        Row row = findRow(test, machine);
        if (row == null || !row.there) {
            return refuseRow(row);
        }
        if (!isPlace(build)) {
            return refuseWith(BEYOND);
        }
        return row.values[build];
    }

    public int tear(int test, int machine) {
        Row row = findRow(test, machine);
        if (row == null || !row.there) {
            return refuseRow(row);
        }
        row.empty();
        row.there = false;
        return 1;
    }

    public int copy(int test, int machine, int i, int other, int j, int n) {
        Row from = findRow(test, machine);
        Row to = findRow(test, other);
        if (from == null || to == null) {
            return BAD;
        }
        if (n < 0) {
            return refuseWith(SIZE);
        }
        if (!from.there || !to.there) {
            return refuseWith(NOTHING);
        }
        if (!holds(i, n) || !holds(j, n)) {
            return refuseWith(BEYOND);
        }
        System.arraycopy(from.values, i, to.values, j, n);
        to.changed = true;
        return 1;
    }

    public int rank(int test, int machine, int build) {
        Row row = findRow(test, machine);
        if (row == null || !row.there) {
            return refuseRow(row);
        }
        if (!isPlace(build) || build >= buildCount) {
            return refuseWith(BEYOND);
        }
        if (row.values[build] == NONE) {
            return refuseWith(NOUGHT);
        }
        return row.rankOf(row.values[build], buildCount);
    }

    public int mean(int test, int machine) {
        Row row = findRow(test, machine);
        if (row == null || !row.there) {
            return refuseRow(row);
        }
        int sum = 0;
        int counted = 0;
        for (int b = 0; b < buildCount; b++) {
            if (row.values[b] != NONE) {
                sum += row.values[b];
                counted++;
            }
        }
        return counted == 0 ? refuseWith(NOUGHT) : sum / counted;
    }

    // ---- 2 cuts

    public int price(int p) {
        if (!isWithin(p, MOST_PRICE)) {
            return BAD;
        }
        int before = cutPrice;
        cutPrice = p;
        return before;
    }

    public int cuts(int test, int machine) {
        Row row = findRow(test, machine);
        if (row == null || !row.there) {
            return refuseRow(row);
        }
        bringUpToDate(row);
        told = row.total;
        return row.cutCount();
    }

    public int cut(int test, int machine, int i) {
        Row row = findRow(test, machine);
        if (row == null || !row.there) {
            return refuseRow(row);
        }
        bringUpToDate(row);
        return row.hasCut(i) ? row.cutBuild(i) : NONE;
    }

    public int middle(int test, int machine, int i) {
        Row row = findRow(test, machine);
        if (row == null || !row.there) {
            return refuseRow(row);
        }
        bringUpToDate(row);
        return i >= 0 && i < row.spans ? row.middles[i] : NONE;
    }

    public int size(int test, int machine, int i) {
        Row row = findRow(test, machine);
        if (row == null || !row.there) {
            return refuseRow(row);
        }
        bringUpToDate(row);
        if (!row.hasCut(i)) {
            return NONE;
        }
        told = row.stepSize(i);
        return 1;
    }

    // ---- 3 what steps are

    public int reach(int r) {
        if (!isWithin(r, MOST_REACH)) {
            return BAD;
        }
        int before = stepReach;
        stepReach = r;
        return before;
    }

    public int own(int test, int machine, int i) {
        Test found = findTest(test);
        Row row = findRow(test, machine);
        if (found == null || row == null || !row.there) {
            return refuseRow(row);
        }
        bringRowsUpToDate(found);
        if (!row.hasCut(i)) {
            return NONE;
        }
        return isItsOwn(found, machine, i) ? 1 : 0;
    }

    public int undone(int test, int machine, int i) {
        Test found = findTest(test);
        Row row = findRow(test, machine);
        if (found == null || row == null || !row.there) {
            return refuseRow(row);
        }
        if (found.kind != PAIRED) {
            return refuseWith(UNLIKE);
        }
        bringUpToDate(row);
        return row.hasCut(i) ? row.undoingOf(i) : NONE;
    }

    public int odds(int test, int machine, int i) {
        Row row = findRow(test, machine);
        if (row == null || !row.there) {
            return refuseRow(row);
        }
        bringUpToDate(row);
        if (!row.hasCut(i)) {
            return NONE;
        }
        Chances c = readyChances();
        if (!c.reckon(row, i)) {
            return 0;
        }
        oddsUpper = c.ways;
        oddsLower = c.allWays;
        return 1;
    }

    public int cry(int s, int u, int l) {
        if (!isWithin(s, MILLION) || !isWithin(u, MILLION) || l < 1 || l > MILLION) {
            return BAD;
        }
        int before = alarmCount;
        int first = 0;
        for (int t = 0; t < testCount; t++) {
            if (tests[t].kind == QUIET) {
                continue;
            }
            bringRowsUpToDate(tests[t]);
            for (int m = 0; m < MACHINES; m++) {
                int alarm = cryRow(t, m, s, u, l);
                first = first == 0 ? alarm : first;
            }
        }
        if (first != 0) {
            told = first;
        }
        return alarmCount - before;
    }

    public int cried(int i) {
        return i >= 0 && i < alarmCount && i < KEPT_ALARMS ? keptAlarms[i] : NONE;
    }

    // ---- 4 halving

    public int halve(int lo, int hi, int votes) {
        if (lo < 0 || lo >= hi || hi >= buildCount) {
            return BAD;
        }
        if (votes != 1 && votes != 3 && votes != 5) {
            return BAD;
        }
        halving.begin(lo, hi, votes);
        return halving.mostReruns();
    }

    public int asks() {
        if (!halving.begun) {
            return STATE;
        }
        return halving.hasEnded() ? NONE : halving.middleBuild();
    }

    public int rerun(boolean slow) {
        if (!halving.begun || halving.hasEnded()) {
            return STATE;
        }
        return halving.take(slow);
    }

    public int found() {
        if (!halving.begun) {
            return STATE;
        }
        return halving.hasEnded() ? halving.hi : NONE;
    }

    public int reruns() {
        return halving.taken;
    }

    // ---- 5 what is told

    public long upper() {
        return oddsUpper;
    }

    public long lower() {
        return oddsLower;
    }

    public long asked() {
        return told;
    }

    public int count(int what) {
        switch (what) {
            case 0:
                return buildCount;
            case 1:
                return testCount;
            case 2:
                return countRows();
            case 3:
                return alarmCount;
            default:
                return BAD;
        }
    }

    public int finding() {
        return latestFinding;
    }

    public int findings(int f) {
        return f >= NOTHING && f <= SIZE ? findingCounts[f] : BAD;
    }

    public long digest() {
        long h = 17;
        h = 31 * h + buildCount;
        h = 31 * h + cutPrice;
        h = 31 * h + stepReach;
        for (int t = 0; t < testCount; t++) {
            h = 31 * h + tests[t].kind;
            for (int m = 0; m < MACHINES; m++) {
                h = tests[t].rows[m].digestOnto(h);
            }
        }
        h = 31 * h + alarmCount;
        h = 31 * h + asks();
        h = 31 * h + found();
        return 31 * h + reruns();
    }

    // ---- help for the calls

    private static boolean isWithin(int v, int most) {
        return v >= 0 && v <= most;
    }

    private static boolean isKind(int kind) {
        return isWithin(kind, QUIET);
    }

    private static boolean isPlace(int build) {
        return build >= 0 && build < PLACES;
    }

    /** Whether a ROW has n places from the place i on; i + n itself could wrap around. */
    private static boolean holds(int i, int n) {
        return isWithin(i, PLACES) && n <= PLACES - i;
    }

    private Test findTest(int test) {
        return test >= 0 && test < testCount ? tests[test] : null;
    }

    private Row findRow(int test, int machine) {
        Test found = findTest(test);
        return found == null || machine < 0 || machine >= MACHINES ? null : found.rows[machine];
    }

    private int refuseWith(int finding) {
        latestFinding = finding;
        findingCounts[finding]++;
        return FINDING;
    }

    /** For a ROW that no TEST and MACHINE have (null), or that is missing. */
    private int refuseRow(Row row) {
        return row == null ? BAD : refuseWith(NOTHING);
    }

    private void bringUpToDate(Row row) {
        if (row.changed || row.cutBuilds != buildCount || row.cutPrice != cutPrice) {
            cutter.divide(row, buildCount, cutPrice);
        }
    }

    private void bringRowsUpToDate(Test test) {
        for (int m = 0; m < MACHINES; m++) {
            if (test.rows[m].there) {
                bringUpToDate(test.rows[m]);
            }
        }
    }

    /** The table for ODDS is large, and many objects never need it: so it is made at its first use. */
    private Chances readyChances() {
        if (chances == null) {
            chances = new Chances();
        }
        return chances;
    }

    /** Only for a TEST of which the ROWS are up to date. */
    private boolean isItsOwn(Test test, int machine, int i) {
        Row row = test.rows[machine];
        int build = row.cutBuild(i);
        int way = Integer.signum(row.stepSize(i));
        boolean couldShow = false;
        for (int m = 0; m < MACHINES; m++) {
            Row other = test.rows[m];
            if (m == machine || !other.there) {
                continue;
            }
            if (other.stepsNear(build, stepReach, way)) {
                return false;
            }
            couldShow = couldShow || other.isMeasuredAround(build);
        }
        return couldShow;
    }

    /** The first ALARM of those that the ROW gave; 0: none (no ALARM is 0, as no CUT is ahead of BUILD 0). */
    private int cryRow(int t, int m, int s, int u, int l) {
        Row row = tests[t].rows[m];
        if (!row.there) {
            return 0;
        }
        int first = 0;
        for (int i = 0; i < row.cutCount(); i++) {
            if (row.stepSize(i) >= s && isAlarming(tests[t], m, i) && isRare(row, i, u, l)) {
                int alarm = 1000 * t + 100 * m + row.cutBuild(i);
                first = first == 0 ? alarm : first;
                row.rememberAlarm(i);
                keepAlarm(alarm);
            }
        }
        return first;
    }

    /** All that makes an ALARM but its SIZE and its ODDS. */
    private boolean isAlarming(Test test, int machine, int i) {
        Row row = test.rows[machine];
        if (row.stepSize(i) <= 0 || row.wasAlarmed(i)) {
            return false;
        }
        boolean undone = test.kind == PAIRED && row.undoingOf(i) != NONE;
        return !undone && !isItsOwn(test, machine, i);
    }

    private boolean isRare(Row row, int i, int u, int l) {
        Chances c = readyChances();
        return !c.reckon(row, i) || (long) c.ways * l <= (long) u * c.allWays;
    }

    private void keepAlarm(int alarm) {
        if (alarmCount < KEPT_ALARMS) {
            keptAlarms[alarmCount] = alarm;
        }
        alarmCount++;
    }

    private int countRows() {
        int rows = 0;
        for (int t = 0; t < testCount; t++) {
            for (int m = 0; m < MACHINES; m++) {
                if (tests[t].rows[m].there) {
                    rows++;
                }
            }
        }
        return rows;
    }

    /** A TEST: its KIND, and a ROW for each MACHINE. */
    private static final class Test {
        final int kind;
        final Row[] rows = new Row[MACHINES];

        Test(int kind) {
            this.kind = kind;
            for (int m = 0; m < MACHINES; m++) {
                rows[m] = new Row();
            }
        }
    }

    /**
     * A ROW and how it is CUT. The cuts are kept until a measurement, the BUILDS or THE PRICE change,
     * since most calls ask again about the same cuts.
     */
    private static final class Row {
        final int[] values = new int[PLACES];
        boolean there;
        /** Bit b: an ALARM was cried ahead of BUILD b. It stays when the ROW is torn. */
        long alarmed;

        boolean changed = true;
        int cutBuilds;
        int cutPrice;

        /** The MEASURED BUILDS in order, and their RANKS. */
        int measured;
        final int[] places = new int[PLACES];
        final int[] ranks = new int[PLACES];

        /** Span i holds the MEASURED BUILDS from firsts[i] up to, but not with, firsts[i + 1]. */
        int spans;
        final int[] firsts = new int[PLACES + 1];
        final int[] middles = new int[PLACES];
        /** For each CUT that of the STEP with which its own is PAIRED, or NONE. */
        final int[] mates = new int[PLACES];
        int total;

        Row() {
            Arrays.fill(values, NONE);
        }

        void empty() {
            Arrays.fill(values, NONE);
            changed = true;
        }

        int rankOf(int v, int builds) {
            int less = 0;
            int alike = 0;
            for (int b = 0; b < builds; b++) {
                int w = values[b];
                if (w == v) {
                    alike++;
                } else if (w != NONE && w < v) {
                    less++;
                }
            }
            return 2 * less + alike;
        }

        int cutCount() {
            return spans > 0 ? spans - 1 : 0;
        }

        boolean hasCut(int i) {
            return i >= 0 && i < cutCount();
        }

        int cutBuild(int i) {
            return places[firsts[i + 1]];
        }

        int stepSize(int i) {
            return middles[i + 1] - middles[i];
        }

        int undoingOf(int i) {
            return stepSize(i) > 0 ? mates[i] : NONE;
        }

        boolean stepsNear(int build, int reach, int way) {
            for (int i = 0; i < cutCount(); i++) {
                boolean sameWay = way != 0 && Integer.signum(stepSize(i)) == way;
                if (sameWay && Math.abs(cutBuild(i) - build) <= reach) {
                    return true;
                }
            }
            return false;
        }

        boolean isMeasuredAround(int build) {
            return measured > 0 && places[0] < build && places[measured - 1] >= build;
        }

        void rememberAlarm(int i) {
            alarmed |= 1L << cutBuild(i);
        }

        boolean wasAlarmed(int i) {
            return (alarmed >> cutBuild(i) & 1L) != 0;
        }

        long digestOnto(long start) {
            if (!there) {
                return 31 * start - 1;
            }
            long h = start;
            for (int b = 0; b < PLACES; b++) {
                h = 31 * h + values[b];
            }
            return h;
        }

        void gatherMeasured(int builds) {
            measured = 0;
            for (int b = 0; b < builds; b++) {
                if (values[b] != NONE) {
                    places[measured] = b;
                    ranks[measured] = rankOf(values[b], builds);
                    measured++;
                }
            }
        }

        void pairSteps() {
            Arrays.fill(mates, NONE);
            for (int i = 0; i < cutCount(); i++) {
                if (stepSize(i) > 0) {
                    pairStep(i);
                }
            }
        }

        private void pairStep(int up) {
            int rise = stepSize(up);
            for (int down = up + 1; down < cutCount(); down++) {
                int fall = -stepSize(down);
                boolean isAlike = 10 * Math.abs(rise - fall) <= rise;
                if (fall > 0 && mates[down] == NONE && isAlike) {
                    mates[up] = down;
                    mates[down] = up;
                    return;
                }
            }
        }
    }

    /** Finds the cheapest way to cut a ROW, from its end to its start; its rows are used again for each. */
    private static final class Cutter {
        private final int[] sorted = new int[PLACES];
        /** For the rest of the ROW from a MEASURED BUILD on: its least cost, the fewest cuts, the first cut. */
        private final int[] least = new int[PLACES];
        private final int[] fewest = new int[PLACES];
        private final int[] next = new int[PLACES];

        void divide(Row row, int builds, int price) {
            row.gatherMeasured(builds);
            for (int start = row.measured - 1; start >= 0; start--) {
                solveFrom(row, start, price);
            }
            row.total = row.measured > 0 ? least[0] : 0;
            setSpans(row);
            setMiddles(row);
            row.pairSteps();
            row.changed = false;
            row.cutBuilds = builds;
            row.cutPrice = price;
        }

        /** Ends are tried in order and only a better one is taken: so of those alike the earliest cut stays. */
        private void solveFrom(Row row, int start, int price) {
            int cost = 0;
            for (int last = start; last < row.measured; last++) {
                int held = last - start;
                cost += farFromMiddle(row.ranks[last], held);
                insert(row.ranks[last], held);
                int end = last + 1;
                boolean whole = end == row.measured;
                int sum = whole ? cost : cost + price + least[end];
                int cuts = whole ? 0 : 1 + fewest[end];
                boolean better = sum < least[start] || sum == least[start] && cuts < fewest[start];
                if (held == 0 || better) {
                    least[start] = sum;
                    fewest[start] = cuts;
                    next[start] = end;
                }
            }
        }

        /**
         * By how much one more rank raises the COST of a span that holds so many: every value between the
         * two middle ones is as cheap a middle as the MIDDLE is, so only the way to the nearer of them counts.
         */
        private int farFromMiddle(int rank, int held) {
            if (held == 0) {
                return 0;
            }
            int low = sorted[(held - 1) / 2];
            int high = sorted[held / 2];
            return rank < low ? low - rank : rank > high ? rank - high : 0;
        }

        private void insert(int v, int held) {
            int p = held;
            while (p > 0 && sorted[p - 1] > v) {
                sorted[p] = sorted[p - 1];
                p--;
            }
            sorted[p] = v;
        }

        private void setSpans(Row row) {
            row.spans = 0;
            int start = 0;
            for (int k = 0; k < row.measured; k++) {
                if (k == start) {
                    row.firsts[row.spans] = k;
                    row.spans++;
                    start = next[k];
                }
            }
            row.firsts[row.spans] = row.measured;
        }

        private void setMiddles(Row row) {
            for (int i = 0; i < row.spans; i++) {
                int held = 0;
                for (int k = row.firsts[i]; k < row.firsts[i + 1]; k++) {
                    insert(row.values[row.places[k]], held);
                    held++;
                }
                row.middles[i] = sorted[held / 2];
            }
        }
    }

    /** Counts how many choices look as bad as a STEP does. */
    private static final class Chances {
        private static final int MOST = 20;
        private static final int MOST_CHOSEN = MOST / 2;
        /** RANKS are 1 to 79: a sum of how far so many are from the outermost has one of so many values. */
        private static final int SUMS = MOST_CHOSEN * 78 + 1;

        /** At c * SUMS + s: the ways to choose c with the sum s. */
        private final int[] table = new int[(MOST_CHOSEN + 1) * SUMS];
        int ways;
        int allWays = 1;

        /** Sets ways and allWays, in lowest terms; false: there are too many to count. */
        boolean reckon(Row row, int i) {
            int from = row.firsts[i];
            int mid = row.firsts[i + 1];
            int to = row.firsts[i + 2];
            int n = to - from;
            if (n > MOST) {
                return false;
            }
            // A choice of those behind is also one of those ahead: the fewer are chosen, for a small table.
            boolean behind = to - mid <= mid - from;
            int first = behind ? mid : from;
            int chosen = behind ? to - mid : mid - from;
            boolean high = row.stepSize(i) > 0 == behind;
            int end = outermost(row.ranks, from, to, high);
            int sum = 0;
            for (int k = first; k < first + chosen; k++) {
                sum += Math.abs(end - row.ranks[k]);
            }
            ways = countUpTo(row.ranks, from, to, end, chosen, sum);
            allWays = choose(n, chosen);
            int divisor = commonDivisor(allWays, ways);
            if (divisor > 1) {
                ways /= divisor;
                allWays /= divisor;
            }
            return true;
        }

        private static int outermost(int[] ranks, int from, int to, boolean high) {
            int end = ranks[from];
            for (int k = from + 1; k < to; k++) {
                end = high ? Math.max(end, ranks[k]) : Math.min(end, ranks[k]);
            }
            return end;
        }

        /** The ways to choose so many of the ranks, of which the ways to the end are the sum together at most. */
        private int countUpTo(int[] ranks, int from, int to, int end, int chosen, int sum) {
            clear(chosen, sum);
            for (int k = from; k < to; k++) {
                addOne(Math.abs(end - ranks[k]), Math.min(chosen, k - from + 1), sum);
            }
            int all = 0;
            for (int s = 0; s <= sum; s++) {
                all += table[chosen * SUMS + s];
            }
            return all;
        }

        private void clear(int chosen, int sum) {
            for (int c = 0; c <= chosen; c++) {
                for (int s = 0; s <= sum; s++) {
                    table[c * SUMS + s] = 0;
                }
            }
            table[0] = 1;
        }

        /** From the most chosen downwards, so that none is chosen twice. */
        private void addOne(int far, int chosen, int sum) {
            for (int c = chosen; c > 0; c--) {
                int to = c * SUMS;
                int from = to - SUMS - far;
                for (int s = far; s <= sum; s++) {
                    table[to + s] += table[from + s];
                }
            }
        }

        private static int choose(int n, int chosen) {
            int all = 1;
            for (int k = 1; k <= chosen; k++) {
                all = all * (n - chosen + k) / k;
            }
            return all;
        }

        private static int commonDivisor(int a, int b) {
            int x = a;
            int y = b;
            for (int turn = 0; turn < 64 && y != 0; turn++) {
                int rest = x % y;
                x = y;
                y = rest;
            }
            return x;
        }
    }

    /** HALVING: which BUILD is asked, and what its reruns told so far. */
    private static final class Halving {
        boolean begun;
        int lo;
        int hi;
        int votes;
        int taken;
        /** Reruns of the BUILD that is asked now, and how many of them told slow. */
        int cast;
        int slowOnes;

        void begin(int lo, int hi, int votes) {
            begun = true;
            this.lo = lo;
            this.hi = hi;
            this.votes = votes;
            taken = 0;
            cast = 0;
            slowOnes = 0;
        }

        boolean hasEnded() {
            return hi - lo <= 1;
        }

        int middleBuild() {
            return lo + (hi - lo) / 2;
        }

        /** The greater half is the longer way. */
        int mostReruns() {
            int most = 0;
            for (int left = hi - lo; left > 1; left -= left / 2) {
                most += votes;
            }
            return most;
        }

        int take(boolean slow) {
            taken++;
            cast++;
            if (slow) {
                slowOnes++;
            }
            if (cast < votes) {
                return votes - cast;
            }
            decide();
            return 0;
        }

        private void decide() {
            int mid = middleBuild();
            if (slowOnes > cast - slowOnes) {
                hi = mid;
            } else {
                lo = mid;
            }
            cast = 0;
            slowOnes = 0;
        }
    }
}
