/** Counts the answers that are not as due, for the tests of one file. */
final class Check {
    private static int wrong = 0;
    private static int looked = 0;

    private Check() {
    }

    static void due(int promise, String call, long got, long want) {
        looked++;
        if (got != want) {
            wrong++;
            System.out.println(where() + "promise " + promise + ": " + call + " answered " + got + ", due is " + want);
        }
    }

    static void isTrue(String what, boolean holds) {
        looked++;
        if (!holds) {
            wrong++;
            System.out.println(where() + "not so: " + what);
        }
    }

    /** The method that main called, so that what failed can be found. */
    private static String where() {
        String method = "";
        for (StackTraceElement frame : new Throwable().getStackTrace()) {
            if (frame.getMethodName().equals("main")) {
                break;
            }
            boolean own = frame.getClassName().equals("Check");
            method = own ? "" : frame.getClassName() + "." + frame.getMethodName() + ": ";
        }
        return method;
    }

    static boolean anyWrong() {
        return wrong != 0;
    }

    static void end() {
        System.out.println(looked + " looked at, " + wrong + " not as due");
        if (wrong != 0) {
            System.exit(1);
        }
    }

    /** Lays measurements from BUILD 0 on into a ROW that is there. */
    static void layAll(SlowWatch x, int test, int machine, int... values) {
        for (int b = 0; b < values.length; b++) {
            x.lay(test, machine, b, values[b]);
        }
    }

    /** An object with so many BUILDS, TEST 0 of a KIND, and its ROW on MACHINE 0. */
    static SlowWatch withRow(int builds, int kind, int... values) {
        SlowWatch x = new SlowWatch();
        x.builds(builds);
        x.test(kind);
        x.row(0, 0);
        layAll(x, 0, 0, values);
        return x;
    }
}
