/** Promises 23 to 26: throws that pass through frames, and what is told of throws. */
public final class FramesTest {
    private static final int EMPTY = 15;

    public static void main(String[] args) {
        promise23Pass();
        promise23PassRefused();
        promise24Trace();
        promise25Latest();
        promise26Thrown();
        Check.end();
    }

    private static void promise23Pass() {
        ThrowModels x = new ThrowModels();
        for (int type = 0; type <= 6; type++) {
            x.make(type, type, 3, 0);
            x.store(type, type, 2, 9 + type);
        }
        for (int type = 0; type <= 6; type++) {
            Check.works(x, "pass that loads", x.pass(type, type, 2), 9 + type);
            Check.due("trace of a load", x.trace(), 1 + 2 + 8 + 64);
            for (int i : new int[] {3, -1, Integer.MAX_VALUE, Integer.MIN_VALUE}) {
                Check.works(x, "pass beyond the array", x.pass(type, type, i), -102);
                Check.due("trace of an index", x.trace(), 1 + 8 + 16);
            }
            Check.works(x, "pass by a wrong type, cast ahead of index", x.pass(type, (type + 1) % 7, 9), -104);
            Check.due("trace of a cast", x.trace(), 1 + 4 + 8 + 64);
            Check.throwsNow(x, "pass of nothing, null ahead of index", x.pass(type, EMPTY, 9), 1);
            Check.due("trace of nothing", x.trace(), 1 + 8 + 32);
        }
        x.make(10, 7, 0, 0);
        Check.works(x, "pass of a plain", x.pass(0, 7, 0), -104);
        x.store(6, 6, 0, -1L);
        Check.works(x, "pass of a NaN", x.pass(6, 6, 0), 0x7ff8000000000000L);
        x.store(5, 5, 0, -1L);
        Check.works(x, "pass of a float's NaN", x.pass(5, 5, 0), 0x7fc00000L);
        Check.due("only null was thrown", x.thrown(1), 7);
        Check.due("a caught index does not count", x.thrown(2), 0);
        Check.due("a caught cast does not count", x.thrown(4), 0);
    }

    private static void promise23PassRefused() {
        ThrowModels x = new ThrowModels();
        x.make(0, 0, 3, 0);
        x.pass(0, 0, 5);
        for (int type : new int[] {-1, 7, 8, 15, 16}) {
            Check.throwsNow(x, "pass by no number type", x.pass(type, 0, 0), 8);
        }
        for (int cell : new int[] {-1, 16, Integer.MAX_VALUE, Integer.MIN_VALUE}) {
            Check.throwsNow(x, "pass of no cell", x.pass(0, cell, 0), 8);
        }
        Check.due("refused calls leave the trace", x.trace(), 25);
    }

    private static void promise24Trace() {
        ThrowModels x = new ThrowModels();
        Check.due("trace() before a pass", x.trace(), 0);
        Check.throwsNow(x, "refused pass", x.pass(7, 0, 0), 8);
        Check.due("trace() before a pass that was not refused", x.trace(), 0);
        x.pass(0, 0, 0);
        Check.due("trace() of the latest pass", x.trace(), 41);
        Check.due("trace() is no act", x.latest(), 1);
        x.make(0, 0, 1, 0);
        x.load(0, 0, 5);
        Check.due("other acts leave the trace", x.trace(), 41);
        x.pass(0, 0, 0);
        Check.due("trace() begins at 0 again", x.trace(), 75);
    }

    private static void promise25Latest() {
        ThrowModels x = new ThrowModels();
        x.length(0, 0);
        Check.due("latest() of length", x.latest(), 1);
        Check.due("latest() is no act", x.latest(), 1);
        x.is(99, 0);
        x.same(99, 0);
        x.thrown(1);
        x.trace();
        Check.due("latest() behind calls that are no acts", x.latest(), 1);
        x.divide(0, 1, 0);
        Check.due("latest() of divide", x.latest(), 6);
        for (int act = 0; act < 6; act++) {
            x.length(0, 0);
            numberAct(x, act);
            Check.due("latest() of an act that throws nothing", x.latest(), 0);
        }
    }

    private static void numberAct(ThrowModels x, int act) {
        switch (act) {
            case 0 -> x.divide(0, 1, 1);
            case 1 -> x.real(3, 0, 0);
            case 2 -> x.math(0, 0);
            case 3 -> x.narrow(0, 0);
            case 4 -> x.widen(0, 0);
            default -> x.compare(0, 0, 0);
        }
    }

    private static void promise26Thrown() {
        ThrowModels x = new ThrowModels();
        x.make(10, 10, -1, 0);
        x.make(9, 9, 1, 0);
        x.make(0, 0, 1, 0);
        for (int cause = 1; cause <= 8; cause++) {
            for (int time = 0; time < cause; time++) {
                throwOnce(x, cause);
                Check.due("latest() of the cause", x.latest(), cause);
            }
        }
        x.make(0, 0, 1, 0);
        for (int cause = 1; cause <= 8; cause++) {
            Check.due("thrown(cause)", x.thrown(cause), cause);
        }
        for (int what : new int[] {0, 9, -1, Integer.MAX_VALUE, Integer.MIN_VALUE}) {
            Check.due("thrown(none)", x.thrown(what), 0);
        }
        Check.due("thrown() is no act", x.latest(), 0);
    }

    private static void throwOnce(ThrowModels x, int cause) {
        switch (cause) {
            case 1 -> x.length(0, EMPTY);
            case 2 -> x.load(0, 0, 1);
            case 3 -> x.make(0, 0, -1, 0);
            case 4 -> x.load(1, 0, 0);
            case 5 -> x.put(8, 9, 0, 10);
            case 6 -> x.divide(2, 1, 0);
            case 7 -> x.call(10, 5);
            default -> x.move(0, 16);
        }
    }
}
