import java.util.ArrayList;
import java.util.List;

/**
 * Two objects with the same calls behind them: one of them refuses a call, and then both must answer the same
 * to all that is asked of them, but for finding() and findings().
 */
final class Twins {
    private static final int N = SlowWatch.NONE;

    interface Call {
        int on(SlowWatch x);
    }

    interface Maker {
        SlowWatch make();
    }

    private Twins() {
    }

    /** BAD, FULL or STATE. */
    static void refuse(int promise, String call, Maker maker, Call made, int due) {
        look(promise, call, maker, made, due, 0);
    }

    static void find(int promise, String call, Maker maker, Call made, int finding) {
        look(promise, call, maker, made, SlowWatch.FINDING, finding);
    }

    /** A call that is not refused, and yet changes nothing, as one that answers NONE. */
    static void leave(int promise, String call, Maker maker, Call made, int due) {
        look(promise, call, maker, made, due, 0);
    }

    private static void look(int promise, String call, Maker maker, Call made, int due, int finding) {
        SlowWatch x = maker.make();
        SlowWatch y = maker.make();
        Check.due(promise, call, made.on(x), due);
        Check.due(32, "finding() after " + call, x.finding(), finding == 0 ? y.finding() : finding);
        for (int f = 1; f <= 5; f++) {
            int more = f == finding ? 1 : 0;
            Check.due(33, "findings(" + f + ") after " + call, x.findings(f), y.findings(f) + more);
        }
        List<Long> got = tell(x);
        List<Long> want = tell(y);
        Check.isTrue("promise " + promise + ": " + call + " changes nothing\n" + got + "\n" + want, got.equals(want));
    }

    /** All that an object can tell, first without changing it, then by going on with what was begun. */
    private static List<Long> tell(SlowWatch x) {
        List<Long> all = new ArrayList<>(List.of(x.asked(), x.upper(), x.lower(), x.digest()));
        for (int what = 0; what <= 3; what++) {
            all.add((long) x.count(what));
        }
        for (int i = 0; i < 4; i++) {
            all.add((long) x.cried(i));
        }
        // Where all is full, one TEST must do, since an object is good for 512 calls.
        for (int t = x.count(1) == 8 ? 7 : 0; t < x.count(1); t++) {
            for (int m = 0; m < 4; m++) {
                tellRow(x, t, m, all);
            }
        }
        tellHalving(x, all);
        for (int more : new int[] {x.cry(0, 1, 1), x.price(3), x.reach(2), x.cry(0, 1, 1), x.test(0), x.builds(40)}) {
            all.add((long) more);
            all.add(x.asked());
        }
        all.add(x.digest());
        return all;
    }

    private static void tellRow(SlowWatch x, int t, int m, List<Long> all) {
        all.add((long) x.cuts(t, m));
        all.add(x.asked());
        for (int i = 0; x.cut(t, m, i) >= 0; i++) {
            for (int told : new int[] {x.cut(t, m, i), x.middle(t, m, i), x.size(t, m, i), x.own(t, m, i), x.odds(t, m, i)}) {
                all.add((long) told);
            }
            all.addAll(List.of((long) x.undone(t, m, i), x.asked(), x.upper(), x.lower()));
        }
    }

    private static void tellHalving(SlowWatch x, List<Long> all) {
        for (int k = 0; k < 7; k++) {
            for (int told : new int[] {x.asks(), x.found(), x.reruns(), x.rerun(k % 3 != 0)}) {
                all.add((long) told);
            }
        }
    }

    static SlowWatch fresh() {
        return new SlowWatch();
    }

    /** A new TEST of KIND 0 beside no BUILDS: all its ROWS are missing. */
    static SlowWatch bare() {
        SlowWatch x = new SlowWatch();
        x.test(0);
        return x;
    }

    /**
     * Something of everything: a TEST of each KIND, numbered as it; MACHINES 0 and 1 have ROWS with steps, MACHINE 2 one
     * without measurements, MACHINE 3 none; an ALARM, odds and a FINDING were told; a HALVING stands amid its votes.
     */
    static SlowWatch rich() {
        SlowWatch x = new SlowWatch();
        x.builds(8);
        x.price(2);
        for (int t = 0; t < 3; t++) {
            x.test(t);
            x.row(t, 0);
            x.row(t, 1);
            x.row(t, 2);
            Check.layAll(x, t, 0, 10, 10, 30, 30, N, 11, 11, 11, 50, 51);
            Check.layAll(x, t, 1, 7, 7, 7, 90, 90, 6, 6);
        }
        x.rank(0, 0, 4);
        x.cry(20, 1, 1);
        x.odds(0, 0, 0);
        x.halve(1, 7, 3);
        x.rerun(true);
        x.rerun(false);
        x.size(0, 0, 1);
        return x;
    }

    /** The most that there may be: 40 BUILDS, 8 TESTS, and all ROWS, each with 40 measurements. */
    static SlowWatch full() {
        SlowWatch x = new SlowWatch();
        x.builds(40);
        for (int t = 0; t < 8; t++) {
            x.test(t % 3);
            for (int m = 0; m < 4; m++) {
                x.row(t, m);
            }
            for (int b = 0; b < 40; b++) {
                x.lay(t, 0, b, b < 20 ? 1000 * t : 1000000 - b % 3);
            }
            for (int m = 1; m < 4; m++) {
                x.copy(t, 0, 0, m, 0, 40);
            }
        }
        return x;
    }
}
