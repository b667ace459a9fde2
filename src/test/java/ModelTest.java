import java.util.ArrayList;
import java.util.List;
import java.util.Random;

/** Promises 2 to 34: runs of calls that a fixed seed chooses, each answer beside that of the Model. */
public final class ModelTest {
    private static final int NONE = SlowWatch.NONE;
    private static final int[] ODD = {-1, -2, -9, -10, 3, 4, 5, 6, 8, 39, 40, 41, 300, 1000, 1001, 1000000, 1000001,
        Integer.MIN_VALUE, Integer.MAX_VALUE, Integer.MAX_VALUE - 39};

    private final Random random;
    private final SlowWatch x = new SlowWatch();
    private final Model y = new Model();
    private final List<String> calls = new ArrayList<>();
    private final int width;
    private final int most;
    private int seen;

    private ModelTest(long seed) {
        random = new Random(seed);
        width = 1 + random.nextInt(3);
        int[] mosts = {2, 6, 40, 300, 1000000};
        most = mosts[random.nextInt(mosts.length)];
    }

    public static void main(String[] args) {
        waysToCutAgree();
        int runs = args.length > 0 ? Integer.parseInt(args[0]) : 150;
        for (int seed = 0; seed < runs && !Check.anyWrong(); seed++) {
            new ModelTest(seed).run();
        }
        Check.end();
    }

    /** The Model's own two ways to find the cuts tell the same. */
    private static void waysToCutAgree() {
        Random random = new Random(5);
        for (int turn = 0; turn < 1500; turn++) {
            List<Integer> ranks = new ArrayList<>();
            int n = 1 + random.nextInt(9);
            for (int k = 0; k < n; k++) {
                ranks.add(1 + random.nextInt(1 + random.nextInt(2 * n)));
            }
            int price = random.nextInt(8);
            Check.isTrue("the Model's ways agree: " + ranks + " " + price,
                Model.bestOfAll(ranks, price).equals(Model.bestByBeginnings(ranks, price)));
        }
    }

    private void run() {
        if (random.nextInt(8) != 0) {
            prepare();
        }
        while (seen < 450 && !Check.anyWrong()) {
            step();
        }
        if (Check.anyWrong()) {
            calls.forEach(System.out::println);
        }
    }

    private void same(int promise, String call, long got, long want) {
        seen++;
        calls.add(call + " = " + got);
        Check.due(promise, call, got, want);
    }

    /** Rows that have steps, so that the calls about them have something to tell. */
    private void prepare() {
        int n = 2 + random.nextInt(39);
        same(2, "builds(" + n + ")", x.builds(n), y.builds(n));
        for (int t = 0; t < width; t++) {
            int kind = random.nextInt(5) == 0 ? 2 : random.nextInt(2);
            same(3, "test(" + kind + ")", x.test(kind), y.test(kind));
            int machines = 1 + random.nextInt(3);
            for (int m = 0; m < machines; m++) {
                same(5, "row(" + t + ", " + m + ")", x.row(t, m), y.row(t, m));
                if (m > 0 && random.nextInt(2) == 0) {
                    int i = random.nextInt(3);
                    int j = random.nextInt(3);
                    copy(t, 0, i, m, j, 37);
                } else if (seen < 250) {
                    layLevels(t, m, Math.min(40, n + 2));
                }
            }
        }
        int p = random.nextInt(4) == 0 ? random.nextInt(300) : random.nextInt(30);
        same(12, "price(" + p + ")", x.price(p), y.price(p));
    }

    /** Levels that come again now and then, so that steps are undone. */
    private void layLevels(int t, int m, int n) {
        int[] levels = {random.nextInt(most + 1), random.nextInt(most + 1), random.nextInt(most + 1)};
        int level = levels[0];
        int noise = 1 + random.nextInt(most) / (random.nextBoolean() ? 8 : 60);
        for (int b = 0; b < n; b++) {
            if (random.nextInt(7) == 0) {
                level = levels[random.nextInt(3)];
            }
            if (random.nextInt(9) != 0) {
                lay(t, m, b, Math.min(1000000, level + random.nextInt(noise)));
            }
        }
    }

    private int pick(int below) {
        return random.nextInt(25) == 0 ? ODD[random.nextInt(ODD.length)] : random.nextInt(below);
    }

    private void lay(int t, int m, int b, int v) {
        same(6, "lay(" + t + ", " + m + ", " + b + ", " + v + ")", x.lay(t, m, b, v), y.lay(t, m, b, v));
    }

    private void copy(int t, int m, int i, int o, int j, int n) {
        same(9, "copy(" + t + ", " + m + ", " + i + ", " + o + ", " + j + ", " + n + ")",
            x.copy(t, m, i, o, j, n), y.copy(t, m, i, o, j, n));
    }

    private void step() {
        int t = pick(width);
        int m = random.nextInt(3) == 0 ? pick(4) : 0;
        int i = pick(6);
        String place = "(" + t + ", " + m + ", " + i + ")";
        switch (random.nextInt(30)) {
            case 0, 1, 2 -> lay(t, m, pick(40), random.nextInt(5) == 0 ? NONE : pick(most + 1));
            case 3 -> same(10, "rank" + place, x.rank(t, m, i), y.rank(t, m, i));
            case 4 -> same(11, "mean(" + t + ", " + m + ")", x.mean(t, m), y.mean(t, m));
            case 5, 6 -> same(13, "cuts(" + t + ", " + m + ")", x.cuts(t, m), y.cuts(t, m));
            case 7, 8 -> same(14, "cut" + place, x.cut(t, m, i), y.cut(t, m, i));
            case 9 -> same(15, "middle" + place, x.middle(t, m, i), y.middle(t, m, i));
            case 10, 11 -> same(16, "size" + place, x.size(t, m, i), y.size(t, m, i));
            case 12, 13 -> same(18, "own" + place, x.own(t, m, i), y.own(t, m, i));
            case 14, 15 -> same(19, "undone" + place, x.undone(t, m, i), y.undone(t, m, i));
            case 16 -> odds(t, m, i);
            case 17 -> cry();
            case 18 -> same(7, "at" + place, x.at(t, m, i), y.at(t, m, i));
            case 19 -> copy(t, m, pick(20), pick(4), pick(20), pick(21));
            case 20 -> set();
            case 21 -> rows(t, m);
            case 22, 23, 24, 25 -> halving();
            default -> told();
        }
    }

    private void odds(int t, int m, int i) {
        String place = "(" + t + ", " + m + ", " + i + ")";
        same(20, "odds" + place, x.odds(t, m, i), y.odds(t, m, i));
        same(28, "upper()", x.upper(), y.upper);
        same(29, "lower()", x.lower(), y.lower);
    }

    private void cry() {
        int s = random.nextInt(3) == 0 ? pick(most + 1) : random.nextInt(2);
        int u = pick(4);
        int l = random.nextInt(3) == 0 ? pick(100) : 1 + random.nextInt(4);
        same(21, "cry(" + s + ", " + u + ", " + l + ")", x.cry(s, u, l), y.cry(s, u, l));
    }

    private void set() {
        int p = random.nextInt(4) == 0 ? pick(1001) : pick(40);
        int r = pick(6);
        switch (random.nextInt(4)) {
            case 0 -> same(12, "price(" + p + ")", x.price(p), y.price(p));
            case 1 -> same(17, "reach(" + r + ")", x.reach(r), y.reach(r));
            case 2 -> {
                int n = random.nextInt(3) == 0 ? pick(42) : y.builds + random.nextInt(3);
                same(2, "builds(" + n + ")", x.builds(n), y.builds(n));
            }
            default -> {
                int kind = pick(3);
                same(3, "test(" + kind + ")", x.test(kind), y.test(kind));
            }
        }
    }

    private void rows(int t, int m) {
        if (random.nextInt(3) != 0) {
            int i = pick(3);
            same(4, "is(" + t + ", " + i + ")", x.is(t, i), y.is(t, i));
        } else if (random.nextInt(2) == 0) {
            same(5, "row(" + t + ", " + m + ")", x.row(t, m), y.row(t, m));
        } else {
            same(8, "tear(" + t + ", " + m + ")", x.tear(t, m), y.tear(t, m));
        }
    }

    private void halving() {
        boolean slow = random.nextBoolean();
        int lo = pick(10);
        int hi = pick(40);
        int votes = random.nextInt(6) == 0 ? pick(7) : 1 + 2 * random.nextInt(3);
        switch (random.nextInt(9)) {
            case 0 -> same(23, "halve(" + lo + ", " + hi + ", " + votes + ")", x.halve(lo, hi, votes), y.halve(lo, hi, votes));
            case 1 -> same(24, "asks()", x.asks(), y.asks());
            case 2 -> same(26, "found()", x.found(), y.found());
            case 3 -> same(27, "reruns()", x.reruns(), y.reruns);
            default -> same(25, "rerun(" + slow + ")", x.rerun(slow), y.rerun(slow));
        }
    }

    private void told() {
        int i = pick(7);
        switch (random.nextInt(8)) {
            case 0 -> same(28, "upper()", x.upper(), y.upper);
            case 1 -> same(29, "lower()", x.lower(), y.lower);
            case 2 -> same(30, "asked()", x.asked(), y.asked);
            case 3 -> same(31, "count(" + i + ")", x.count(i), y.count(i));
            case 4 -> same(32, "finding()", x.finding(), y.finding);
            case 5 -> same(33, "findings(" + i + ")", x.findings(i), y.findings(i));
            case 6 -> same(22, "cried(" + i + ")", x.cried(i), y.cried(i));
            default -> same(34, "digest()", x.digest(), y.digest());
        }
    }
}
