import java.util.Random;

/** Long runs of calls by chance, on a ThrowModels and on the Java machine itself: both must answer alike. */
public final class MachineTest {
    private static final int RUNS = 5000;
    private static final int CALLS = 512;
    /** From this call on a run only looks at what the cells hold. */
    private static final int FIRST_LOOK = 440;
    private static final int FACE_CALLS = 25;

    private final Random random;
    private final ThrowModels x = new ThrowModels();
    private final Machine machine = new Machine();
    private final int run;
    private int calls = 0;

    private MachineTest(int run) {
        this.run = run;
        random = new Random(run);
    }

    public static void main(String[] args) {
        for (int run = 0; run < RUNS; run++) {
            new MachineTest(run).runAll();
        }
        Check.end();
    }

    /** Compares what one call answered on both. */
    private void due(String call, long got, long want) {
        calls++;
        Check.due("run " + run + ", call " + calls + ": " + call, got, want);
    }

    private void runAll() {
        while (calls < FIRST_LOOK) {
            // Full cells first: most acts on nothing only tell of NULL.
            int which = calls < 48 ? 0 : random.nextInt(FACE_CALLS);
            if (which < 13) {
                callThings(which);
            } else {
                callOthers(which);
            }
            due("latest() behind call " + which, x.latest(), machine.latest());
            if (which > 21 || random.nextInt(8) == 0) {
                due("trace() behind call " + which, x.trace(), machine.trace());
            }
        }
        for (int what = -1; what <= 9; what++) {
            due("thrown(" + what + ")", x.thrown(what), machine.thrown(what));
        }
        while (calls < CALLS) {
            look();
        }
    }

    /** Some part of what a cell holds; the cells stay as they are. */
    private void look() {
        int cell = random.nextInt(16);
        int other = random.nextInt(16);
        int type = type(cell);
        int i = index();
        switch (random.nextInt(6)) {
            case 0: due("is(" + cell + ", " + other + ")", x.is(cell, other), machine.is(cell, other)); break;
            case 1: due("same(" + cell + ", " + other + ")", x.same(cell, other), machine.same(cell, other)); break;
            case 2: due("length(" + type + ", " + cell + ")", x.length(type, cell), machine.length(type, cell)); break;
            case 3: due("load(" + type + ", " + cell + ", " + i + ")", x.load(type, cell, i), machine.load(type, cell, i)); break;
            case 4: due("cross(" + cell + ", " + i + ", 0)", x.cross(cell, i, 0), machine.cross(cell, i, 0)); break;
            default: due("field(" + type + ", " + cell + ")", x.field(type, cell), machine.field(type, cell));
        }
    }

    // ---- arguments: mostly such that there are, now and then others

    private int oneOf(int count) {
        switch (random.nextInt(60)) {
            case 0: return -1 - random.nextInt(2);
            case 1: return count + random.nextInt(2);
            case 2: return random.nextInt();
            default: return random.nextInt(count);
        }
    }

    private int cell() {
        return oneOf(16);
    }

    private int index() {
        return oneOf(6);
    }

    /** A type that a cell's thing is of, if there is one and chance will have it so. */
    private int type(int cell) {
        int type = random.nextInt(16);
        for (int i = 0; i < 16 && random.nextInt(40) != 0; i++) {
            if (machine.is(cell, type) == 1) {
                return type;
            }
            type = (type + 1) % 16;
        }
        return oneOf(16);
    }

    private long number() {
        switch (random.nextInt(4)) {
            case 0: return random.nextLong() >> random.nextInt(64);
            case 1: return Double.doubleToRawLongBits(random.nextInt(40) / 4.0 - 5);
            case 2: return Float.floatToRawIntBits(random.nextInt(40) / 4.0f - 5);
            default: return (random.nextBoolean() ? 0x7ffL << 52 : 0xffL << 23) + random.nextInt(3) - 1;
        }
    }

    // ---- one call on both

    private void callThings(int which) {
        int a = cell();
        int b = cell();
        int i = index();
        int j = index();
        int n = oneOf(5);
        int type = type(a);
        long v = number();
        int size = random.nextInt(12) == 0 ? random.nextInt(70) - 2 : oneOf(7);
        String call = "call " + which + " with " + a + ", " + b + ", " + i + ", " + j + ", " + n + ", " + type;
        switch (which) {
            case 0:
                int kind = oneOf(13);
                due(call, x.make(kind, a, size, n), machine.make(kind, a, size, n));
                break;
            case 1: due(call, x.move(a, b), machine.move(a, b)); break;
            case 2: due(call, x.twin(a, b), machine.twin(a, b)); break;
            case 3: due(call, x.is(a, b), machine.is(a, b)); break;
            case 4: due(call, x.same(a, b), machine.same(a, b)); break;
            case 5: due(call, x.length(type, a), machine.length(type, a)); break;
            case 6: due(call, x.load(type, a, i), machine.load(type, a, i)); break;
            case 7: due(call, x.store(type, a, i, v), machine.store(type, a, i, v)); break;
            case 8: due(call, x.take(type, a, i, b), machine.take(type, a, i, b)); break;
            case 9: due(call, x.put(type, a, i, b), machine.put(type, a, i, b)); break;
            case 10: due(call, x.cross(a, i, j), machine.cross(a, i, j)); break;
            case 11:
                // Often within one array: there the copies overlap.
                int to = random.nextInt(3) == 0 ? a : b;
                due(call, x.copy(a, i, to, j, n), machine.copy(a, i, to, j, n));
                break;
            default: due(call, x.field(type, a), machine.field(type, a));
        }
    }

    private void callOthers(int which) {
        int a = cell();
        int i = index();
        int type = type(a);
        long v = number();
        long w = number();
        int how = oneOf(which == 14 ? 7 : 12);
        String call = "call " + which + " with " + a + ", " + i + ", " + type + ", " + how + ", " + v + ", " + w;
        switch (which) {
            case 13: due(call, x.write(type, a, (int) v), machine.write(type, a, (int) v)); break;
            case 14: due(call, x.call(a, how), machine.call(a, how)); break;
            case 15: due(call, x.divide(how, v, w), machine.divide(how, v, w)); break;
            case 16: due(call, x.real(how, v, w), machine.real(how, v, w)); break;
            case 17: due(call, x.math(how, v), machine.math(how, v)); break;
            case 18: due(call, x.narrow(how, v), machine.narrow(how, v)); break;
            case 19: due(call, x.widen(how, v), machine.widen(how, v)); break;
            case 20: due(call, x.compare(how, v, w), machine.compare(how, v, w)); break;
            case 21: due(call, x.thrown(how), machine.thrown(how)); break;
            default: due(call, x.pass(type, a, i), machine.pass(type, a, i));
        }
    }
}
