import java.util.LinkedHashMap;
import java.util.Map;

/**
 * The Terms: the order of refusals, and that what is refused changes nothing but finding() and findings(). Each refusal
 * that a promise names is asked for here on objects with nothing, something and everything in them.
 */
public final class RefusedTest {
    private static final int LEAST = Integer.MIN_VALUE;
    private static final int MOST = Integer.MAX_VALUE;
    private static final int NOTHING = 1, BEYOND = 2, UNLIKE = 3, NOUGHT = 4, SIZE = 5;

    /** A call that takes a TEST and a MACHINE ahead of all else; the rest of its numbers is fixed. */
    interface OnRow {
        int on(SlowWatch x, int test, int machine);
    }

    public static void main(String[] args) {
        noSuchTest();
        noSuchMachine();
        missingRow();
        badIsAheadOfNothing();
        badIsAheadOfFull();
        fullChangesNothing();
        nothingIsAheadOfNone();
        nothingIsAheadOfOtherFindings();
        beyondIsAheadOfNought();
        copyTellsSizeFirst();
        badIsAheadOfSize();
        badNumbers();
        stateBeforeAnyHalving();
        stateAfterItsEnd();
        findingsOfEachKind();
        noneChangesNothing();
        Check.end();
    }

    /** Every call with a TEST and a MACHINE that needs the ROW to be there, with numbers that are fine in rich(). */
    private static Map<String, OnRow> callsOnRows() {
        Map<String, OnRow> calls = new LinkedHashMap<>();
        calls.put("lay 6", (x, t, m) -> x.lay(t, m, 0, 5));
        calls.put("at 7", (x, t, m) -> x.at(t, m, 0));
        calls.put("tear 8", (x, t, m) -> x.tear(t, m));
        calls.put("copy 9 (from)", (x, t, m) -> x.copy(t, m, 0, 0, 1, 2));
        calls.put("copy 9 (to)", (x, t, m) -> x.copy(t, 0, 0, m, 1, 2));
        calls.put("copy 9 (onto itself)", (x, t, m) -> x.copy(t, m, 0, m, 1, 2));
        calls.put("rank 10", (x, t, m) -> x.rank(t, m, 0));
        calls.put("mean 11", (x, t, m) -> x.mean(t, m));
        calls.put("cuts 13", (x, t, m) -> x.cuts(t, m));
        calls.put("cut 14", (x, t, m) -> x.cut(t, m, 0));
        calls.put("middle 15", (x, t, m) -> x.middle(t, m, 0));
        calls.put("size 16", (x, t, m) -> x.size(t, m, 0));
        calls.put("own 18", (x, t, m) -> x.own(t, m, 0));
        calls.put("undone 19", (x, t, m) -> x.undone(t, m, 0));
        calls.put("odds 20", (x, t, m) -> x.odds(t, m, 0));
        return calls;
    }

    /** The same with whatever else may be refused in them, but for BAD. */
    private static Map<String, OnRow> callsWithMoreToFind() {
        Map<String, OnRow> calls = new LinkedHashMap<>();
        calls.put("lay 6 beyond", (x, t, m) -> x.lay(t, m, 40, 5));
        calls.put("lay 6 below", (x, t, m) -> x.lay(t, m, -1, 5));
        calls.put("at 7 beyond", (x, t, m) -> x.at(t, m, 40));
        calls.put("at 7 below", (x, t, m) -> x.at(t, m, -1));
        calls.put("copy 9 from beyond", (x, t, m) -> x.copy(t, m, 39, m, 0, 2));
        calls.put("copy 9 to beyond", (x, t, m) -> x.copy(t, m, 0, m, 39, 2));
        calls.put("rank 10 of no BUILD", (x, t, m) -> x.rank(t, m, 40));
        calls.put("rank 10 of no measurement", (x, t, m) -> x.rank(t, m, 4));
        return calls;
    }

    private static int promise(String name) {
        return Integer.parseInt(name.split(" ")[1]);
    }

    private static Map<String, OnRow> allOnRows() {
        Map<String, OnRow> calls = callsOnRows();
        calls.putAll(callsWithMoreToFind());
        calls.put("row 5", (x, t, m) -> x.row(t, m));
        calls.put("copy 9 of fewer than none", (x, t, m) -> x.copy(t, m, 0, m, 0, -1));
        calls.put("lay 6 of no number", (x, t, m) -> x.lay(t, m, 0, -1));
        calls.put("cut 14 none such", (x, t, m) -> x.cut(t, m, -1));
        calls.put("middle 15 none such", (x, t, m) -> x.middle(t, m, 40));
        calls.put("size 16 none such", (x, t, m) -> x.size(t, m, MOST));
        calls.put("own 18 none such", (x, t, m) -> x.own(t, m, LEAST));
        calls.put("undone 19 none such", (x, t, m) -> x.undone(t, m, -1));
        calls.put("odds 20 none such", (x, t, m) -> x.odds(t, m, 40));
        return calls;
    }

    /** BAD is ahead of all: a TEST that is none is BAD, whatever else there is. */
    private static void noSuchTest() {
        allOnRows().forEach((name, call) -> {
            for (int t : new int[] {LEAST, -9, -1, 3, 8, MOST}) {
                for (int m : new int[] {0, 3, 4}) {
                    Twins.refuse(promise(name), name + " of TEST " + t + ", " + m, Twins::rich, x -> call.on(x, t, m), SlowWatch.BAD);
                }
            }
            for (int t : new int[] {LEAST, -1, 0, MOST}) {
                Twins.refuse(promise(name), name + ", no TEST at all", Twins::fresh, x -> call.on(x, t, 0), SlowWatch.BAD);
            }
            for (int t : new int[] {-1, 8}) {
                Twins.refuse(promise(name), name + ", all TESTS there", Twins::full, x -> call.on(x, t, 0), SlowWatch.BAD);
            }
        });
    }

    private static void noSuchMachine() {
        allOnRows().forEach((name, call) -> {
            for (int m : new int[] {LEAST, -9, -1, 4, 5, MOST}) {
                Twins.refuse(promise(name), name + " of MACHINE " + m, Twins::rich, x -> call.on(x, 1, m), SlowWatch.BAD);
                Twins.refuse(promise(name), name + " of MACHINE " + m + ", no ROW", Twins::bare, x -> call.on(x, 0, m), SlowWatch.BAD);
            }
            Twins.refuse(promise(name), name + " of MACHINE 4, all ROWS there", Twins::full, x -> call.on(x, 7, 4), SlowWatch.BAD);
        });
    }

    private static void missingRow() {
        callsOnRows().forEach((name, call) -> {
            Twins.find(promise(name), name + " on a ROW never there", Twins::bare, x -> call.on(x, 0, 0), NOTHING);
            Twins.find(promise(name), name + " on a missing ROW", Twins::rich, x -> call.on(x, 1, 3), NOTHING);
            SlowWatch x = Twins.full();
            x.tear(7, 3);
            Check.due(promise(name), name + " on a ROW that was torn", call.on(x, 7, 3), SlowWatch.FINDING);
            Check.due(promise(name), name + " on a ROW that was torn: finding()", x.finding(), NOTHING);
        });
    }

    /** Two that fit at once: v is none, and the ROW is missing, or the place there is not. */
    private static void badIsAheadOfNothing() {
        for (int v : new int[] {LEAST, -10, -8, -1, 1000001, MOST}) {
            Twins.refuse(6, "lay of " + v + " on a missing ROW", Twins::rich, x -> x.lay(0, 3, 0, v), SlowWatch.BAD);
            Twins.refuse(6, "lay of " + v + " beyond", Twins::rich, x -> x.lay(0, 0, 40, v), SlowWatch.BAD);
            Twins.refuse(6, "lay of " + v + " on a missing ROW, beyond", Twins::rich, x -> x.lay(0, 3, -1, v), SlowWatch.BAD);
        }
        Twins.refuse(9, "copy from a missing ROW to no MACHINE", Twins::rich, x -> x.copy(0, 3, 0, 4, 0, 1), SlowWatch.BAD);
        Twins.refuse(9, "copy from no MACHINE to a missing ROW", Twins::rich, x -> x.copy(0, -1, 0, 3, 0, 1), SlowWatch.BAD);
        Twins.refuse(19, "undone of no MACHINE, TEST not PAIRED", Twins::rich, x -> x.undone(0, 4, 0), SlowWatch.BAD);
    }

    private static void badIsAheadOfFull() {
        for (int kind : new int[] {LEAST, -1, 3, MOST}) {
            Twins.refuse(3, "test(" + kind + "), a ninth", Twins::full, x -> x.test(kind), SlowWatch.BAD);
        }
    }

    private static void fullChangesNothing() {
        for (int kind = 0; kind <= 2; kind++) {
            int k = kind;
            Twins.refuse(3, "test(" + kind + "), a ninth", Twins::full, x -> x.test(k), SlowWatch.FULL);
        }
    }

    private static void nothingIsAheadOfNone() {
        for (int i : new int[] {LEAST, -1, 40, MOST}) {
            Twins.find(14, "cut " + i + " of a missing ROW", Twins::rich, x -> x.cut(1, 3, i), NOTHING);
            Twins.find(15, "middle " + i + " of a missing ROW", Twins::rich, x -> x.middle(1, 3, i), NOTHING);
            Twins.find(16, "size " + i + " of a missing ROW", Twins::rich, x -> x.size(1, 3, i), NOTHING);
            Twins.find(18, "own " + i + " of a missing ROW", Twins::rich, x -> x.own(1, 3, i), NOTHING);
            Twins.find(19, "undone " + i + " of a missing ROW", Twins::rich, x -> x.undone(1, 3, i), NOTHING);
            Twins.find(20, "odds " + i + " of a missing ROW", Twins::rich, x -> x.odds(1, 3, i), NOTHING);
        }
    }

    private static void nothingIsAheadOfOtherFindings() {
        callsWithMoreToFind().forEach((name, call) ->
            Twins.find(promise(name), name + ", missing", Twins::rich, x -> call.on(x, 1, 3), NOTHING));
        for (int t : new int[] {0, 2}) {
            Twins.find(19, "undone, missing and not PAIRED", Twins::rich, x -> x.undone(t, 3, 0), NOTHING);
            Twins.find(19, "undone, not PAIRED", Twins::rich, x -> x.undone(t, 0, 0), UNLIKE);
            Twins.find(19, "undone, not PAIRED and none such", Twins::rich, x -> x.undone(t, 0, -1), UNLIKE);
            Twins.find(19, "undone, not PAIRED, no measurements", Twins::rich, x -> x.undone(t, 2, 0), UNLIKE);
        }
        Twins.find(9, "copy to a missing ROW, beyond", Twins::rich, x -> x.copy(0, 0, MOST, 3, LEAST, MOST), NOTHING);
        Twins.find(9, "copy from a missing ROW, beyond", Twins::rich, x -> x.copy(0, 3, 41, 0, -1, 0), NOTHING);
    }

    /** Where there is no BUILD, no measurement is asked for. */
    private static void beyondIsAheadOfNought() {
        for (int b : new int[] {LEAST, -1, 8, 10, 39, 40, MOST}) {
            Twins.find(10, "rank of BUILD " + b, Twins::rich, x -> x.rank(0, 0, b), BEYOND);
            Twins.find(10, "rank of BUILD " + b + " of none", Twins::rich, x -> x.rank(0, 2, b), BEYOND);
        }
        Twins.find(10, "rank of no measurement", Twins::rich, x -> x.rank(0, 0, 4), NOUGHT);
        Twins.find(10, "rank of the last BUILD of none", Twins::rich, x -> x.rank(0, 2, 7), NOUGHT);
        Twins.find(11, "mean of no measurements", Twins::rich, x -> x.mean(0, 2), NOUGHT);
    }

    private static void copyTellsSizeFirst() {
        for (int n : new int[] {-1, -40, LEAST}) {
            Twins.find(9, "copy of " + n, Twins::rich, x -> x.copy(0, 0, 0, 1, 0, n), SIZE);
            Twins.find(9, "copy of " + n + " from beyond", Twins::rich, x -> x.copy(0, 0, 41, 1, 0, n), SIZE);
            Twins.find(9, "copy of " + n + " to beyond", Twins::rich, x -> x.copy(0, 0, 0, 1, -1, n), SIZE);
            Twins.find(9, "copy of " + n + " from a missing ROW", Twins::rich, x -> x.copy(0, 3, 0, 1, 0, n), SIZE);
            Twins.find(9, "copy of " + n + " to a missing ROW", Twins::rich, x -> x.copy(0, 0, 0, 3, 0, n), SIZE);
        }
    }

    private static void badIsAheadOfSize() {
        Twins.refuse(9, "copy of -1 of no TEST", Twins::rich, x -> x.copy(3, 0, 0, 0, 0, -1), SlowWatch.BAD);
        Twins.refuse(9, "copy of -1 from no MACHINE", Twins::rich, x -> x.copy(0, 4, 0, 0, 0, -1), SlowWatch.BAD);
        Twins.refuse(9, "copy of -1 to no MACHINE", Twins::rich, x -> x.copy(0, 0, 0, -1, 0, -1), SlowWatch.BAD);
    }

    /** The calls that no ROW is needed for. */
    private static void badNumbers() {
        bad(2, "builds", new int[] {LEAST, -9, -1, 7, 41, MOST}, SlowWatch::builds);
        bad(3, "test", new int[] {LEAST, -9, -1, 3, MOST}, SlowWatch::test);
        bad(4, "is(0, .)", new int[] {LEAST, -1, 3, MOST}, (x, k) -> x.is(0, k));
        bad(4, "is(., 0)", new int[] {LEAST, -1, 3, 8, MOST}, (x, t) -> x.is(t, 0));
        bad(4, "is(., 3)", new int[] {-1, 3}, (x, t) -> x.is(t, 3));
        bad(12, "price", new int[] {LEAST, -9, -1, 1001, MOST}, SlowWatch::price);
        bad(17, "reach", new int[] {LEAST, -9, -1, 6, MOST}, SlowWatch::reach);
        bad(21, "cry(., 1, 1)", new int[] {LEAST, -9, -1, 1000001, MOST}, (x, s) -> x.cry(s, 1, 1));
        bad(21, "cry(0, ., 1)", new int[] {LEAST, -9, -1, 1000001, MOST}, (x, u) -> x.cry(0, u, 1));
        bad(21, "cry(0, 1, .)", new int[] {LEAST, -9, -1, 0, 1000001, MOST}, (x, l) -> x.cry(0, 1, l));
        bad(23, "halve(., 7, 1)", new int[] {LEAST, -9, -1, 7, 8, MOST}, (x, lo) -> x.halve(lo, 7, 1));
        bad(23, "halve(2, ., 1)", new int[] {LEAST, -1, 0, 1, 2, 8, 39, 40, MOST}, (x, hi) -> x.halve(2, hi, 1));
        bad(23, "halve(2, 7, .)", new int[] {LEAST, -5, -3, -1, 0, 2, 4, 6, 7, 9, MOST}, (x, v) -> x.halve(2, 7, v));
        bad(31, "count", new int[] {LEAST, -1, 4, MOST}, SlowWatch::count);
        bad(33, "findings", new int[] {LEAST, -1, 0, 6, MOST}, SlowWatch::findings);
        Twins.refuse(2, "builds(39) of 40", Twins::full, x -> x.builds(39), SlowWatch.BAD);
        Twins.refuse(2, "builds(41) of 40", Twins::full, x -> x.builds(41), SlowWatch.BAD);
        Twins.refuse(23, "halve(0, 40, 1) of 40", Twins::full, x -> x.halve(0, 40, 1), SlowWatch.BAD);
        Twins.refuse(23, "halve(0, 1, 1) of none", Twins::fresh, x -> x.halve(0, 1, 1), SlowWatch.BAD);
    }

    interface OfOne {
        int on(SlowWatch x, int number);
    }

    private static void bad(int promise, String call, int[] numbers, OfOne made) {
        for (int n : numbers) {
            Twins.refuse(promise, call + ": " + n, Twins::rich, x -> made.on(x, n), SlowWatch.BAD);
        }
    }

    private static void stateBeforeAnyHalving() {
        Twins.Maker[] makers = {Twins::fresh, Twins::bare, Twins::full};
        for (Twins.Maker maker : makers) {
            Twins.refuse(24, "asks() before any", maker, x -> x.asks(), SlowWatch.STATE);
            Twins.refuse(25, "rerun(true) before any", maker, x -> x.rerun(true), SlowWatch.STATE);
            Twins.refuse(25, "rerun(false) before any", maker, x -> x.rerun(false), SlowWatch.STATE);
            Twins.refuse(26, "found() before any", maker, x -> x.found(), SlowWatch.STATE);
        }
    }

    private static SlowWatch ended() {
        SlowWatch x = Twins.rich();
        x.halve(3, 5, 1);
        x.rerun(true);
        return x;
    }

    private static void stateAfterItsEnd() {
        Twins.refuse(25, "rerun(true) after the end", RefusedTest::ended, x -> x.rerun(true), SlowWatch.STATE);
        Twins.refuse(25, "rerun(false) after the end", RefusedTest::ended, x -> x.rerun(false), SlowWatch.STATE);
        Twins.leave(24, "asks() after the end", RefusedTest::ended, x -> x.asks(), SlowWatch.NONE);
        Twins.leave(26, "found() after the end", RefusedTest::ended, x -> x.found(), 4);
        Twins.leave(26, "found() ahead of the end", Twins::rich, x -> x.found(), SlowWatch.NONE);
    }

    /** Each has its number, on a new object: finding() is 0 ahead of it, and findings() are 0. */
    private static void findingsOfEachKind() {
        Twins.Maker maker = () -> Check.withRow(2, 0, 4);
        Twins.find(32, "NOTHING", maker, x -> x.at(0, 1, 0), 1);
        Twins.find(32, "BEYOND", maker, x -> x.at(0, 0, 40), 2);
        Twins.find(32, "UNLIKE", maker, x -> x.undone(0, 0, 0), 3);
        Twins.find(32, "NOUGHT", maker, x -> x.rank(0, 0, 1), 4);
        Twins.find(32, "SIZE", maker, x -> x.copy(0, 0, 0, 0, 0, -1), 5);
    }

    private static void noneChangesNothing() {
        for (int i : new int[] {LEAST, -9, -1, 2, 39, 40, 41, MOST}) {
            Twins.leave(14, "cut " + i, Twins::rich, x -> x.cut(1, 0, i), SlowWatch.NONE);
            Twins.leave(16, "size " + i, Twins::rich, x -> x.size(1, 0, i), SlowWatch.NONE);
            Twins.leave(18, "own " + i, Twins::rich, x -> x.own(1, 0, i), SlowWatch.NONE);
            Twins.leave(19, "undone " + i, Twins::rich, x -> x.undone(1, 0, i), SlowWatch.NONE);
            Twins.leave(20, "odds " + i, Twins::rich, x -> x.odds(1, 0, i), SlowWatch.NONE);
        }
        for (int i : new int[] {LEAST, -9, -1, 3, 39, 40, 41, MOST}) {
            Twins.leave(15, "middle " + i, Twins::rich, x -> x.middle(1, 0, i), SlowWatch.NONE);
        }
        for (int i : new int[] {LEAST, -1, 300, MOST}) {
            Twins.leave(22, "cried " + i, Twins::rich, x -> x.cried(i), SlowWatch.NONE);
            Twins.leave(22, "cried " + i + " of none", Twins::fresh, x -> x.cried(i), SlowWatch.NONE);
        }
        Twins.leave(22, "cried(0) of none", Twins::fresh, x -> x.cried(0), SlowWatch.NONE);
        for (int i : new int[] {-1, 0, 1}) {
            Twins.leave(14, "cut " + i + " of no measurements", Twins::rich, x -> x.cut(1, 2, i), SlowWatch.NONE);
            Twins.leave(15, "middle " + i + " of no measurements", Twins::rich, x -> x.middle(1, 2, i), SlowWatch.NONE);
            Twins.leave(16, "size " + i + " of no measurements", Twins::rich, x -> x.size(1, 2, i), SlowWatch.NONE);
            Twins.leave(18, "own " + i + " of no measurements", Twins::rich, x -> x.own(1, 2, i), SlowWatch.NONE);
            Twins.leave(19, "undone " + i + " of no measurements", Twins::rich, x -> x.undone(1, 2, i), SlowWatch.NONE);
            Twins.leave(20, "odds " + i + " of no measurements", Twins::rich, x -> x.odds(1, 2, i), SlowWatch.NONE);
        }
    }
}
