import java.util.Random;

/** Long runs of calls by chance, on a ThrowModels and on the Java machine itself: both must answer alike. */
public final class MachineTest {
    private static final int RUNS = 1500;
    private static final int CALLS = 512;
    private static final int FACE_CALLS = 25;

    private final Random random;
    private final ThrowModels x = new ThrowModels();
    private final Machine machine = new Machine();

    private MachineTest(int run) {
        random = new Random(run);
    }

    public static void main(String[] args) {
        for (int run = 0; run < RUNS; run++) {
            new MachineTest(run).run(run);
        }
        Check.end();
    }

    private void run(int run) {
        for (int call = 0; call < CALLS; call++) {
            // Full cells first: most acts on nothing only tell of NULL.
            int which = call < 24 ? 0 : random.nextInt(FACE_CALLS);
            String told = "run " + run + ", call " + call + ": ";
            if (which < 13) {
                callThings(told, which);
            } else {
                callOthers(told, which);
            }
            Check.due(told + "latest() behind call " + which, x.latest(), machine.latest());
            Check.due(told + "trace() behind call " + which, x.trace(), machine.trace());
        }
        compareAll("run " + run + " at its end: ");
    }

    /** The whole state, as far as calls can tell it. */
    private void compareAll(String told) {
        for (int what = -1; what <= 9; what++) {
            Check.due(told + "thrown(" + what + ")", x.thrown(what), machine.thrown(what));
        }
        for (int cell = 0; cell < 16; cell++) {
            for (int other = 0; other < 16; other++) {
                Check.due(told + "is(" + cell + ", " + other + ")", x.is(cell, other), machine.is(cell, other));
                Check.due(told + "same(" + cell + ", " + other + ")", x.same(cell, other), machine.same(cell, other));
                Check.due(told + "field(" + other + ", " + cell + ")", x.field(other, cell), machine.field(other, cell));
                compareElements(told, other, cell);
            }
        }
    }

    private void compareElements(String told, int type, int cell) {
        long length = machine.length(type, cell);
        Check.due(told + "length(" + type + ", " + cell + ")", x.length(type, cell), length);
        for (int i = 0; i < length; i++) {
            String call = told + "load(" + type + ", " + cell + ", " + i + ")";
            Check.due(call, x.load(type, cell, i), machine.load(type, cell, i));
            for (int j = 0; j < 4; j++) {
                Check.due(call + ", cross " + j, x.cross(cell, i, j), machine.cross(cell, i, j));
            }
        }
    }

    // ---- arguments: mostly such that there are, now and then others

    private int oneOf(int count) {
        switch (random.nextInt(60)) {
            case 0: return -1 - random.nextInt(2);
            case 1: return count + random.nextInt(2);
            case 2: return random.nextInt();
            default: return random.nextInt(count);
        }
    }

    private int cell() {
        return oneOf(16);
    }

    private int index() {
        return oneOf(6);
    }

    /** A type that a cell's thing is of, if there is one and chance will have it so. */
    private int type(int cell) {
        int type = random.nextInt(16);
        for (int i = 0; i < 16 && random.nextInt(40) != 0; i++) {
            if (machine.is(cell, type) == 1) {
                return type;
            }
            type = (type + 1) % 16;
        }
        return oneOf(16);
    }

    private long number() {
        switch (random.nextInt(4)) {
            case 0: return random.nextLong() >> random.nextInt(64);
            case 1: return Double.doubleToRawLongBits(random.nextInt(40) / 4.0 - 5);
            case 2: return Float.floatToRawIntBits(random.nextInt(40) / 4.0f - 5);
            default: return (random.nextBoolean() ? 0x7ffL << 52 : 0xffL << 23) + random.nextInt(3) - 1;
        }
    }

    // ---- one call on both

    private void callThings(String told, int which) {
        int a = cell();
        int b = cell();
        int i = index();
        int j = index();
        int n = oneOf(5);
        int type = type(a);
        long v = number();
        int size = random.nextInt(12) == 0 ? random.nextInt(70) - 2 : oneOf(7);
        String call = told + "call " + which + " with " + a + ", " + b + ", " + i + ", " + j + ", " + n + ", " + type;
        switch (which) {
            case 0:
                int kind = oneOf(13);
                Check.due(call, x.make(kind, a, size, n), machine.make(kind, a, size, n));
                break;
            case 1: Check.due(call, x.move(a, b), machine.move(a, b)); break;
            case 2: Check.due(call, x.twin(a, b), machine.twin(a, b)); break;
            case 3: Check.due(call, x.is(a, b), machine.is(a, b)); break;
            case 4: Check.due(call, x.same(a, b), machine.same(a, b)); break;
            case 5: Check.due(call, x.length(type, a), machine.length(type, a)); break;
            case 6: Check.due(call, x.load(type, a, i), machine.load(type, a, i)); break;
            case 7: Check.due(call, x.store(type, a, i, v), machine.store(type, a, i, v)); break;
            case 8: Check.due(call, x.take(type, a, i, b), machine.take(type, a, i, b)); break;
            case 9: Check.due(call, x.put(type, a, i, b), machine.put(type, a, i, b)); break;
            case 10: Check.due(call, x.cross(a, i, j), machine.cross(a, i, j)); break;
            case 11:
                // Often within one array: there the copies overlap.
                int to = random.nextInt(3) == 0 ? a : b;
                Check.due(call, x.copy(a, i, to, j, n), machine.copy(a, i, to, j, n));
                break;
            default: Check.due(call, x.field(type, a), machine.field(type, a));
        }
    }

    private void callOthers(String told, int which) {
        int a = cell();
        int i = index();
        int type = type(a);
        long v = number();
        long w = number();
        int how = oneOf(which == 14 ? 7 : 12);
        String call = told + "call " + which + " with " + a + ", " + i + ", " + type + ", " + how + ", " + v + ", " + w;
        switch (which) {
            case 13: Check.due(call, x.write(type, a, (int) v), machine.write(type, a, (int) v)); break;
            case 14: Check.due(call, x.call(a, how), machine.call(a, how)); break;
            case 15: Check.due(call, x.divide(how, v, w), machine.divide(how, v, w)); break;
            case 16: Check.due(call, x.real(how, v, w), machine.real(how, v, w)); break;
            case 17: Check.due(call, x.math(how, v), machine.math(how, v)); break;
            case 18: Check.due(call, x.narrow(how, v), machine.narrow(how, v)); break;
            case 19: Check.due(call, x.widen(how, v), machine.widen(how, v)); break;
            case 20: Check.due(call, x.compare(how, v, w), machine.compare(how, v, w)); break;
            case 21: Check.due(call, x.thrown(how), machine.thrown(how)); break;
            default: Check.due(call, x.pass(type, a, i), machine.pass(type, a, i));
        }
    }
}
