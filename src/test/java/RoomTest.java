import java.lang.management.ManagementFactory;
import java.util.Random;

/** No call throws for any arguments in any state, and the dearest runs stay far inside the room that all calls share. */
public final class RoomTest {
    /** 7.3 million fields and elements are the room; of four bytes each, and a quarter of it is plenty. */
    private static final long MOST_BYTES = 7300000L;
    private static final int[] EDGES = {Integer.MIN_VALUE, Integer.MIN_VALUE + 1, -1000001, -41, -40, -10, -9, -8, -2, -1, 0, 1, 2,
        3, 4, 5, 6, 7, 8, 9, 19, 20, 21, 38, 39, 40, 41, 299, 300, 301, 999, 1000, 1001, 999999, 1000000, 1000001,
        Integer.MAX_VALUE - 40, Integer.MAX_VALUE - 1, Integer.MAX_VALUE};

    private final Random random;
    private final SlowWatch x = new SlowWatch();

    private RoomTest(long seed) {
        random = new Random(seed);
    }

    public static void main(String[] args) {
        for (int seed = 0; seed < 3000; seed++) {
            new RoomTest(seed).anything();
        }
        Check.isTrue("nothing was thrown", true);
        room("512 cries of full rows", RoomTest::cries);
        room("512 new objects", RoomTest::newOnes);
        room("many objects, each with odds", RoomTest::oddsOfNewOnes);
        room("rows torn and made again", RoomTest::tornRows);
        Check.end();
    }

    private int any() {
        return random.nextInt(3) == 0 ? EDGES[random.nextInt(EDGES.length)] : random.nextInt(5);
    }

    private void anything() {
        x.builds(random.nextInt(41));
        x.test(random.nextInt(3));
        for (int k = 0; k < 510; k++) {
            int a = any();
            int b = any();
            int c = any();
            switch (random.nextInt(34)) {
                case 0 -> x.builds(a);
                case 1 -> x.test(a);
                case 2 -> x.is(a, b);
                case 3 -> x.row(a, b);
                case 4, 5, 6 -> x.lay(a, b, random.nextInt(2) == 0 ? c : random.nextInt(40), any());
                case 7 -> x.at(a, b, c);
                case 8 -> x.tear(a, b);
                case 9 -> x.copy(a, b, c, any(), any(), any());
                case 10 -> x.rank(a, b, c);
                case 11 -> x.mean(a, b);
                case 12 -> x.price(a);
                case 13 -> x.cuts(a, b);
                case 14 -> x.cut(a, b, c);
                case 15 -> x.middle(a, b, c);
                case 16 -> x.size(a, b, c);
                case 17 -> x.reach(a);
                case 18 -> x.own(a, b, c);
                case 19 -> x.undone(a, b, c);
                case 20 -> x.odds(a, b, c);
                case 21 -> x.cry(a, b, c);
                case 22 -> x.cried(a);
                case 23 -> x.halve(a, b, c);
                case 24 -> x.asks();
                case 25, 26 -> x.rerun(a > 0);
                case 27 -> x.found();
                case 28 -> x.reruns();
                case 29 -> x.upper();
                case 30 -> x.lower();
                case 31 -> x.count(a);
                case 32 -> x.findings(a);
                default -> x.digest();
            }
        }
    }

    private static void room(String what, Runnable run) {
        com.sun.management.ThreadMXBean bean = (com.sun.management.ThreadMXBean) ManagementFactory.getThreadMXBean();
        run.run();
        long before = bean.getCurrentThreadAllocatedBytes();
        run.run();
        long used = bean.getCurrentThreadAllocatedBytes() - before;
        System.out.println(what + ": " + used + " bytes");
        Check.isTrue(what + " take " + used + " bytes", used < MOST_BYTES);
    }

    private static void cries() {
        SlowWatch x = new SlowWatch();
        x.builds(40);
        for (int t = 0; t < 8; t++) {
            x.test(t % 2);
            x.row(t, 0);
            for (int b = 0; b < 40; b++) {
                x.lay(t, 0, b, (b * 7 + t) % 11 + b / 10 * 5);
            }
            for (int m = 1; m < 4; m++) {
                x.row(t, m);
                x.copy(t, 0, 0, m, 0, 40);
            }
        }
        for (int k = 0; k < 512; k++) {
            x.price(k % 60);
            x.cry(0, 0, 1);
        }
    }

    private static void newOnes() {
        long sum = 0;
        for (int k = 0; k < 512; k++) {
            sum += new SlowWatch().digest();
        }
        Check.isTrue("they were made", sum != 0);
    }

    private static void oddsOfNewOnes() {
        for (int k = 0; k < 64; k++) {
            SlowWatch x = Check.withRow(2, 0, 1, 2);
            x.price(0);
            x.odds(0, 0, 0);
        }
    }

    private static void tornRows() {
        SlowWatch x = new SlowWatch();
        x.test(0);
        for (int k = 0; k < 256; k++) {
            x.row(0, 0);
            x.tear(0, 0);
        }
    }
}
