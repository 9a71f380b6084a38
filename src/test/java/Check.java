/** Compares answers with what is due, prints those that differ, and ends a test. */
final class Check {
    private static final int SHOWN = 40;
    private static long compared = 0;
    private static long wrong = 0;
    private static String part = "";

    private Check() {
    }

    /** What is compared from here on, told ahead of each answer that differs. */
    static void begin(String name) {
        part = name + ": ";
    }

    static long compared() {
        return compared;
    }

    static void due(String call, long got, long want) {
        compared++;
        if (got != want) {
            wrong(call + " answered " + got + ", due is " + want);
        }
    }

    /** An act that threw nothing. */
    static void works(ThrowModels x, String call, long got, long want) {
        due(call, got, want);
        due("latest() after " + call, x.latest(), 0);
    }

    /** An act that threw: its answer is 0 then. */
    static void throwsNow(ThrowModels x, String call, long got, int cause) {
        due(call, got, 0);
        due("latest() after " + call, x.latest(), cause);
    }

    static void wrong(String what) {
        wrong++;
        if (wrong <= SHOWN) {
            System.out.println(part + what);
        }
    }

    static void end() {
        System.out.println(compared + " answers compared, " + wrong + " wrong");
        if (wrong != 0) {
            System.exit(1);
        }
    }
}
