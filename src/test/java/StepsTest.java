/** Promises 17 to 22: what steps are. */
public final class StepsTest {
    private static final int N = SlowWatch.NONE;

    public static void main(String[] args) {
        reach();
        own();
        ownNeedsOneThatCouldShow();
        ownTheSameWay();
        undone();
        undoneInOrder();
        odds();
        oddsOfMany();
        oddsByRanksOfTheRow();
        stepCallsRefuse();
        cryRefuses();
        cry();
        cryOnce();
        cryBySizeAndOdds();
        cryNotTheUndone();
        cryMany();
        Check.end();
    }

    private static void reach() {
        SlowWatch x = new SlowWatch();
        Check.due(17, "reach(0)", x.reach(0), 1);
        Check.due(17, "reach(5)", x.reach(5), 0);
        for (int r : new int[] {-1, 6, Integer.MIN_VALUE, Integer.MAX_VALUE}) {
            Check.due(17, "reach(" + r + ")", x.reach(r), SlowWatch.BAD);
        }
        Check.due(17, "reach(3)", x.reach(3), 5);
    }

    private static SlowWatch levels(int kind, int builds, int from, int to, int cut) {
        SlowWatch x = new SlowWatch();
        x.builds(builds);
        x.price(1);
        x.test(kind);
        layLevels(x, 0, 0, builds, from, to, cut);
        return x;
    }

    private static void layLevels(SlowWatch x, int test, int machine, int builds, int from, int to, int cut) {
        x.row(test, machine);
        for (int b = 0; b < builds; b++) {
            x.lay(test, machine, b, b < cut ? from : to);
        }
    }

    private static void own() {
        SlowWatch x = levels(0, 20, 5, 9, 10);
        Check.due(18, "own without another ROW", x.own(0, 0, 0), 0);
        layLevels(x, 0, 2, 20, 7, 7, 10);
        Check.due(18, "own beside a flat ROW", x.own(0, 0, 0), 1);
        layLevels(x, 0, 3, 20, 1, 2, 16);
        for (int r = 0; r <= 5; r++) {
            x.reach(r);
            Check.due(18, "own, 6 away, reach " + r, x.own(0, 0, 0), 1);
        }
        layLevels(x, 0, 3, 20, 1, 2, 14);
        for (int r = 0; r <= 5; r++) {
            x.reach(r);
            Check.due(18, "own, 4 behind, reach " + r, x.own(0, 0, 0), r >= 4 ? 0 : 1);
        }
        layLevels(x, 0, 3, 20, 1, 2, 7);
        for (int r = 0; r <= 5; r++) {
            x.reach(r);
            Check.due(18, "own, 3 ahead, reach " + r, x.own(0, 0, 0), r >= 3 ? 0 : 1);
            Check.due(18, "the other's own, reach " + r, x.own(0, 3, 0), r >= 3 ? 0 : 1);
        }
        x.tear(0, 3);
        Check.due(18, "own, the other torn", x.own(0, 0, 0), 1);
        x.tear(0, 2);
        Check.due(18, "own, none left", x.own(0, 0, 0), 0);
        x.test(0);
        layLevels(x, 1, 1, 20, 7, 7, 10);
        Check.due(18, "own beside another TEST's ROW", x.own(0, 0, 0), 0);
    }

    private static void ownNeedsOneThatCouldShow() {
        SlowWatch x = levels(2, 10, 5, 9, 4);
        x.row(0, 1);
        Check.due(18, "own beside an empty ROW", x.own(0, 0, 0), 0);
        x.lay(0, 1, 3, 6);
        Check.due(18, "own beside one measured ahead alone", x.own(0, 0, 0), 0);
        x.row(0, 2);
        x.lay(0, 2, 4, 6);
        Check.due(18, "own beside one ahead, another one behind", x.own(0, 0, 0), 0);
        x.lay(0, 1, 10, 6);
        Check.due(18, "own, one behind that does not count", x.own(0, 0, 0), 0);
        x.lay(0, 2, 0, 6);
        Check.due(18, "own beside one measured on both sides", x.own(0, 0, 0), 1);
    }

    private static void ownTheSameWay() {
        SlowWatch x = levels(0, 10, 9, 5, 4);
        layLevels(x, 0, 1, 10, 5, 9, 4);
        Check.due(18, "a step down beside one up", x.own(0, 0, 0), 1);
        Check.due(18, "a step up beside one down", x.own(0, 1, 0), 1);
        layLevels(x, 0, 2, 10, 100, 1, 5);
        Check.due(18, "a step down beside one down", x.own(0, 0, 0), 0);
        Check.due(18, "a step up beside two down", x.own(0, 1, 0), 1);
        Check.due(18, "own(0, 0, 1)", x.own(0, 0, 1), N);
        Check.due(18, "own(0, 0, -1)", x.own(0, 0, -1), N);
    }

    private static void undone() {
        int[][] backs = {{90, 1}, {89, N}, {110, 1}, {111, N}, {100, 1}};
        for (int[] back : backs) {
            SlowWatch x = Check.withRow(6, 1, 500, 500, 600, 600, 600 - back[0], 600 - back[0]);
            x.price(1);
            Check.due(19, "undone of 100 by " + back[0], x.undone(0, 0, 0), back[1]);
            Check.due(19, "undone of the step down", x.undone(0, 0, 1), N);
            Check.due(19, "undone of none such", x.undone(0, 0, 2), N);
            Check.due(19, "undone(0, 0, -1)", x.undone(0, 0, -1), N);
        }
        SlowWatch y = Check.withRow(6, 1, 600, 600, 500, 500, 600, 600);
        y.price(1);
        Check.due(19, "undone of a step up behind one down", y.undone(0, 0, 1), N);
        SlowWatch z = Check.withRow(6, 1, 500, 500, 509, 509, 499, 499);
        z.price(1);
        Check.due(19, "undone of 9 by 10", z.undone(0, 0, 0), N);
    }

    private static void undoneInOrder() {
        // up 100, up 100, down 150, down 105, down 95
        SlowWatch x = Check.withRow(12, 1, 300, 300, 400, 400, 500, 500, 350, 350, 245, 245, 150, 150);
        x.price(1);
        Check.due(19, "cuts", x.cuts(0, 0), 5);
        Check.due(19, "the first up takes the first alike", x.undone(0, 0, 0), 3);
        Check.due(19, "the second up takes the next", x.undone(0, 0, 1), 4);
        // up 100, up 104, down 106, down 90: the second could take the first down only
        SlowWatch y = Check.withRow(10, 1, 300, 300, 400, 400, 504, 504, 398, 398, 308, 308);
        y.price(1);
        Check.due(19, "taken by the first", y.undone(0, 0, 0), 2);
        Check.due(19, "none is left for the second", y.undone(0, 0, 1), N);
        // up 100, down 100, up 100, down 100
        SlowWatch z = Check.withRow(10, 1, 1, 1, 101, 101, 1, 1, 101, 101, 1, 1);
        z.price(1);
        Check.due(19, "first pair", z.undone(0, 0, 0), 1);
        Check.due(19, "second pair", z.undone(0, 0, 2), 3);
    }

    private static void oddsAre(SlowWatch x, String of, int i, long upper, long lower) {
        Check.due(20, "odds of " + of, x.odds(0, 0, i), 1);
        Check.due(20, "upper() of " + of, x.upper(), upper);
        Check.due(20, "lower() of " + of, x.lower(), lower);
    }

    private static void odds() {
        SlowWatch x = Check.withRow(5, 0, 1, 2, 3, 90, 91);
        x.price(3);
        Check.due(20, "cuts", x.cuts(0, 0), 1);
        oddsAre(x, "three and two", 0, 1, 10);
        SlowWatch y = Check.withRow(5, 0, 90, 91, 3, 2, 1);
        y.price(3);
        oddsAre(y, "a step down", 0, 1, 10);
        // 1 1 5 5 5 | 5 9 9 9 9: RANKS 2 2 6 6 6 6 .. and the 5 behind may be any of four: 4 of 252
        SlowWatch z = Check.withRow(10, 0, 1, 1, 5, 5, 5, 9, 9, 5, 9, 9);
        z.price(10);
        Check.due(20, "cuts with alike ones", z.cuts(0, 0), 2);
        z.price(12);
        Check.due(20, "cuts with alike ones", z.cuts(0, 0), 1);
        Check.due(20, "cut with alike ones", z.cut(0, 0, 0), 5);
        oddsAre(z, "alike ones", 0, 4 / 4, 252 / 4);
        Check.due(20, "odds(0, 0, 1)", z.odds(0, 0, 1), N);
        Check.due(20, "odds(0, 0, -1)", z.odds(0, 0, -1), N);
        Check.due(20, "upper() after NONE", z.upper(), 1);
        Check.due(20, "lower() after NONE", z.lower(), 63);
    }

    private static void oddsOfMany() {
        SlowWatch x = levels(0, 20, 5, 9, 10);
        oddsAre(x, "ten and ten", 0, 1, 184756);
        x.lay(0, 0, 19, N);
        oddsAre(x, "ten and nine", 0, 1, 92378);
        x.builds(21);
        x.lay(0, 0, 19, 9);
        x.lay(0, 0, 20, 9);
        Check.due(20, "odds of 21", x.odds(0, 0, 0), 0);
        Check.due(20, "upper() after 0", x.upper(), 1);
        Check.due(20, "lower() after 0", x.lower(), 92378);
        SlowWatch y = levels(0, 40, 9, 5, 38);
        y.row(0, 0);
        for (int b = 0; b < 20; b++) {
            y.lay(0, 0, 2 * b, b < 19 ? 9 : 5);
        }
        oddsAre(y, "nineteen and one, down", 0, 1, 20);
        // 19 levels of one, then a span of 20 and one of 1: n is 21 there, though the ROW has but 22
        SlowWatch z = levels(0, 22, 3, 3, 0);
        z.lay(0, 0, 0, 1);
        z.lay(0, 0, 21, 7);
        Check.due(20, "cuts of 1, 20, 1", z.cuts(0, 0), 2);
        Check.due(20, "odds of 1 and 20", z.odds(0, 0, 0), 0);
        z.lay(0, 0, 5, N);
        oddsAre(z, "1 and 19", 0, 1, 20);
    }

    /** RANKS are those of the whole ROW: another SPAN's measurements weigh in them. */
    private static void oddsByRanksOfTheRow() {
        // Levels 10 and 20 with 1s and 29s in them, then many between 10 and 20 far behind.
        int[] values = {10, 10, 20, 10, 10, 20, 20, 29, 20, 20, 15, 15, 15, 15, 15, 15, 15, 15, 15, 15};
        SlowWatch x = Check.withRow(20, 0, values);
        x.price(14);
        Model y = new Model();
        y.builds(20);
        y.test(0);
        y.row(0, 0);
        for (int b = 0; b < values.length; b++) {
            y.lay(0, 0, b, values[b]);
        }
        y.price(14);
        for (int i = 0; i < 4; i++) {
            Check.due(20, "odds(0, 0, " + i + ")", x.odds(0, 0, i), y.odds(0, 0, i));
            Check.due(20, "upper()", x.upper(), y.upper);
            Check.due(20, "lower()", x.lower(), y.lower);
        }
    }

    private static void stepCallsRefuse() {
        SlowWatch x = levels(0, 10, 5, 9, 4);
        int[][] bad = {{1, 0}, {-1, 0}, {0, 4}, {0, -1}, {Integer.MAX_VALUE, Integer.MIN_VALUE}};
        for (int[] b : bad) {
            Check.due(18, "own, bad", x.own(b[0], b[1], 0), SlowWatch.BAD);
            Check.due(19, "undone, bad", x.undone(b[0], b[1], 0), SlowWatch.BAD);
            Check.due(20, "odds, bad", x.odds(b[0], b[1], 0), SlowWatch.BAD);
        }
        Check.due(18, "own, missing", x.own(0, 1, 0), SlowWatch.FINDING);
        Check.due(20, "odds, missing", x.odds(0, 1, 0), SlowWatch.FINDING);
        Check.due(19, "undone, missing and not PAIRED", x.undone(0, 1, 0), SlowWatch.FINDING);
        Check.due(19, "findings(1)", x.findings(1), 3);
        Check.due(19, "undone of a TEST", x.undone(0, 0, 0), SlowWatch.FINDING);
        Check.due(19, "finding()", x.finding(), 3);
        Check.due(19, "undone of a TEST, none such", x.undone(0, 0, 9), SlowWatch.FINDING);
        x.test(2);
        x.row(1, 0);
        Check.due(19, "undone of a QUIET one", x.undone(1, 0, 0), SlowWatch.FINDING);
        Check.due(19, "findings(3)", x.findings(3), 3);
        x.test(1);
        x.row(2, 0);
        Check.due(19, "undone of a PAIRED one without measurements", x.undone(2, 0, 0), N);
    }

    private static void cryRefuses() {
        SlowWatch x = levels(0, 10, 5, 9, 4);
        int most = 1000000;
        int[][] bad = {{-1, 1, 1}, {most + 1, 1, 1}, {0, -1, 1}, {0, most + 1, 1}, {0, 1, 0}, {0, 1, -1}, {0, 1, most + 1},
            {Integer.MIN_VALUE, 1, 1}, {0, Integer.MAX_VALUE, 1}, {0, 1, Integer.MIN_VALUE}};
        for (int[] b : bad) {
            Check.due(21, "cry(" + b[0] + ", " + b[1] + ", " + b[2] + ")", x.cry(b[0], b[1], b[2]), SlowWatch.BAD);
        }
        Check.due(21, "count(3)", x.count(3), 0);
        Check.due(21, "cry of the greatest size", x.cry(most, most, 1), 0);
        Check.due(21, "cry of the least odds", x.cry(0, 0, most), 0);
        Check.due(21, "cry of any", x.cry(0, most, most), 1);
        SlowWatch y = new SlowWatch();
        Check.due(21, "cry without a TEST", y.cry(0, 1, 1), 0);
    }

    private static void cry() {
        SlowWatch x = levels(0, 10, 5, 9, 4);
        x.test(2);
        layLevels(x, 1, 0, 10, 5, 9, 4);
        x.test(1);
        layLevels(x, 2, 3, 10, 5, 9, 7);
        layLevels(x, 2, 1, 10, 5, 9, 6);
        x.test(0);
        layLevels(x, 3, 2, 10, 9, 5, 5);
        layLevels(x, 0, 1, 10, 5, 9, 5);
        x.lay(0, 1, 8, 20);
        x.lay(0, 1, 9, 20);
        Check.due(21, "cry(1, 1, 1)", x.cry(1, 1, 1), 4);
        Check.due(21, "asked(): the first", x.asked(), 4);
        int[] want = {4, 105, 2106, 2307};
        for (int i = 0; i < 4; i++) {
            Check.due(22, "cried(" + i + ")", x.cried(i), want[i]);
        }
        // The step at 8 is that of MACHINE 1 alone.
        Check.due(21, "own(0, 1, 1)", x.own(0, 1, 1), 1);
        layLevels(x, 0, 2, 10, 3, 4, 9);
        Check.due(21, "cry: what was its own is shared", x.cry(1, 1, 1), 2);
        Check.due(21, "asked()", x.asked(), 108);
        Check.due(22, "cried(4)", x.cried(4), 108);
        Check.due(22, "cried(5)", x.cried(5), 209);
        Check.due(22, "cried(6)", x.cried(6), N);
        Check.due(22, "cried(-1)", x.cried(-1), N);
        Check.due(22, "cried(least)", x.cried(Integer.MIN_VALUE), N);
        Check.due(22, "cried(most)", x.cried(Integer.MAX_VALUE), N);
    }

    private static void cryOnce() {
        SlowWatch x = levels(0, 10, 5, 9, 4);
        Check.due(21, "cry", x.cry(0, 1, 1), 1);
        x.size(0, 0, 0);
        Check.due(21, "cry again", x.cry(0, 1, 1), 0);
        Check.due(21, "asked(): 0 cried tell nothing", x.asked(), 4);
        layLevels(x, 0, 0, 10, 1, 900, 4);
        Check.due(21, "cry of another step at the same cut", x.cry(0, 1, 1), 0);
        x.tear(0, 0);
        layLevels(x, 0, 0, 10, 1, 900, 4);
        Check.due(21, "cry after the ROW was torn", x.cry(0, 1, 1), 0);
        layLevels(x, 0, 0, 10, 1, 900, 5);
        Check.due(21, "cry of another cut", x.cry(0, 1, 1), 1);
        layLevels(x, 0, 0, 10, 1, 900, 4);
        Check.due(21, "cry of the first cut again", x.cry(0, 1, 1), 0);
        layLevels(x, 0, 1, 10, 1, 900, 4);
        Check.due(21, "cry of the same cut on another MACHINE", x.cry(0, 1, 1), 1);
        Check.due(21, "asked()", x.asked(), 104);
        x.builds(40);
        x.lay(0, 0, 39, 1000);
        x.lay(0, 1, 39, 1000);
        x.price(0);
        Check.due(21, "cry of the last BUILD", x.cry(0, 1, 1), 2);
        Check.due(21, "asked()", x.asked(), 39);
        Check.due(21, "cry of it again", x.cry(0, 1, 1), 0);
    }

    private static void cryBySizeAndOdds() {
        SlowWatch x = levels(0, 6, 5, 9, 3);
        Check.due(21, "cry(5, 1, 1): too small", x.cry(5, 1, 1), 0);
        Check.due(21, "cry(4, 1, 21): odds are 1 by 20", x.cry(4, 1, 21), 0);
        Check.due(21, "cry(4, 0, 1)", x.cry(4, 0, 1), 0);
        Check.due(21, "cry(4, 49999, 1000000)", x.cry(4, 49999, 1000000), 0);
        Check.due(21, "upper(): cry leaves it", x.upper(), 0);
        Check.due(21, "lower(): cry leaves it", x.lower(), 1);
        Check.due(21, "cry(4, 50000, 1000000): not above", x.cry(4, 50000, 1000000), 1);
        SlowWatch y = levels(0, 20, 5, 9, 10);
        Check.due(21, "cry(0, 0, 1) of 20", y.cry(0, 0, 1), 0);
        y.builds(21);
        y.lay(0, 0, 20, 9);
        Check.due(21, "cry(0, 0, 1) of 21: counts as none", y.cry(0, 0, 1), 1);
    }

    private static void cryNotTheUndone() {
        for (int kind = 0; kind < 3; kind++) {
            SlowWatch x = Check.withRow(6, kind, 500, 500, 600, 600, 500, 500);
            x.price(1);
            Check.due(21, "cry of a step undone, KIND " + kind, x.cry(0, 1, 1), kind == 0 ? 1 : 0);
        }
        SlowWatch y = Check.withRow(6, 1, 500, 500, 600, 600, 489, 489);
        y.price(1);
        Check.due(21, "cry of a step not quite undone", y.cry(0, 1, 1), 1);
    }

    private static void cryMany() {
        SlowWatch x = new SlowWatch();
        x.builds(40);
        x.price(0);
        for (int t = 0; t < 3; t++) {
            x.test(0);
            for (int m = 0; m < 4; m++) {
                x.row(t, m);
            }
            for (int b = 0; b < 40; b++) {
                x.lay(t, 0, b, b * b);
            }
            for (int m = 1; m < 4; m++) {
                x.copy(t, 0, 0, m, 0, 40);
            }
        }
        Check.due(21, "cry of 3 * 4 * 39", x.cry(0, 1, 2), 468);
        Check.due(21, "asked()", x.asked(), 1);
        Check.due(31, "count(3)", x.count(3), 468);
        Check.due(22, "cried(0)", x.cried(0), 1);
        Check.due(22, "cried(38)", x.cried(38), 39);
        Check.due(22, "cried(39)", x.cried(39), 101);
        Check.due(22, "cried(299)", x.cried(299), 1300 + 299 - 156 - 117 + 1);
        Check.due(22, "cried(300): not kept", x.cried(300), N);
        Check.due(22, "cried(467): not kept", x.cried(467), N);
        Check.due(21, "cry again, those not kept were cried too", x.cry(0, 1, 2), 0);
        x.test(0);
        x.row(3, 0);
        x.lay(3, 0, 0, 1);
        x.lay(3, 0, 30, 2);
        Check.due(21, "cry of one that is not kept", x.cry(0, 1, 2), 1);
        Check.due(21, "asked() of one that is not kept", x.asked(), 3030);
        Check.due(31, "count(3)", x.count(3), 469);
    }
}
