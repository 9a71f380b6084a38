import java.util.function.LongSupplier;

/**
 * The face of ThrowModels, answered by the Java machine itself: real arrays, casts, copies, calls and
 * throws. A test may catch what the machine throws; the program may not.
 */
final class Machine {
    interface Sized {
        int size();

        default int twice() {
            return 2 * size();
        }
    }

    interface Named extends Sized {
        default int twice() {
            return 3 * size() + 100;
        }
    }

    static class Plain implements Sized {
        int a;

        public int size() {
            return a;
        }

        int mark() {
            return 7 * a + 1;
        }

        int step() {
            return 1000 + a;
        }
    }

    static class Round extends Plain implements Named {
        @Override
        public int size() {
            return 2 * a;
        }

        @Override
        int step() {
            return super.step() + 20;
        }
    }

    static final class Square extends Round {
        @Override
        public int size() {
            return 2 * a + 1;
        }

        @Override
        int mark() {
            return 10 * super.mark();
        }

        @Override
        int step() {
            return 1000 + a + 23;
        }
    }

    private static final class OwnThrow extends RuntimeException {
        private static final long serialVersionUID = 1;
    }

    private final Object[] cells = new Object[16];
    private final int[] counts = new int[9];
    private int latest = 0;
    private int trace = 0;

    // ---- acts

    /** Runs an act, unless it is refused, and keeps what the machine throws in it. */
    private long act(boolean known, LongSupplier act) {
        latest = 8;
        long answer = 0;
        if (known) {
            latest = 0;
            try {
                answer = act.getAsLong();
            } catch (RuntimeException thrown) {
                latest = number(thrown);
            }
        }
        counts[latest]++;
        return answer;
    }

    private static int number(RuntimeException thrown) {
        if (thrown instanceof NullPointerException) {
            return 1;
        }
        if (thrown instanceof IndexOutOfBoundsException) {
            return 2;
        }
        if (thrown instanceof NegativeArraySizeException) {
            return 3;
        }
        if (thrown instanceof ClassCastException) {
            return 4;
        }
        if (thrown instanceof ArrayStoreException) {
            return 5;
        }
        if (thrown instanceof ArithmeticException) {
            return 6;
        }
        if (thrown instanceof OwnThrow) {
            return 7;
        }
        throw thrown;
    }

    private static boolean in(int number, int low, int high) {
        return low <= number && number <= high;
    }

    private static boolean isCell(int cell) {
        return in(cell, 0, 15);
    }

    long make(int kind, int cell, int n, int m) {
        boolean known = in(kind, 0, 12) && isCell(cell) && (kind >= 10 || n <= 64) && (kind != 7 || m <= 64);
        return act(known, () -> {
            cells[cell] = made(kind, n, m);
            return 1;
        });
    }

    private static Object made(int kind, int n, int m) {
        switch (kind) {
            case 0: return new int[n];
            case 1: return new long[n];
            case 2: return new byte[n];
            case 3: return new char[n];
            case 4: return new short[n];
            case 5: return new float[n];
            case 6: return new double[n];
            case 7: return new int[n][m];
            case 8: return new Plain[n];
            case 9: return new Round[n];
            default:
                Plain own = kind == 10 ? new Plain() : kind == 11 ? new Round() : new Square();
                own.a = n;
                return own;
        }
    }

    long move(int from, int to) {
        return act(in(from, -1, 15) && isCell(to), () -> {
            cells[to] = from == -1 ? null : cells[from];
            return 1;
        });
    }

    long twin(int cell, int to) {
        return act(isCell(cell) && isCell(to), () -> {
            cells[to] = ((int[]) cells[cell]).clone();
            return 1;
        });
    }

    long is(int cell, int type) {
        if (!isCell(cell) || !in(type, 0, 15)) {
            return -1;
        }
        Object x = cells[cell];
        boolean[] answers = {
            x instanceof int[], x instanceof long[], x instanceof byte[], x instanceof char[], x instanceof short[],
            x instanceof float[], x instanceof double[], x instanceof int[][], x instanceof Plain[], x instanceof Round[],
            x instanceof Plain, x instanceof Round, x instanceof Square, x instanceof Sized, x instanceof Named,
            x instanceof Sized[],
        };
        return answers[type] ? 1 : 0;
    }

    long same(int a, int b) {
        return !isCell(a) || !isCell(b) ? -1 : cells[a] == cells[b] ? 1 : 0;
    }

    long length(int type, int cell) {
        return act((in(type, 0, 9) || type == 15) && isCell(cell), () -> {
            Object x = cells[cell];
            switch (type) {
                case 0: return ((int[]) x).length;
                case 1: return ((long[]) x).length;
                case 2: return ((byte[]) x).length;
                case 3: return ((char[]) x).length;
                case 4: return ((short[]) x).length;
                case 5: return ((float[]) x).length;
                case 6: return ((double[]) x).length;
                case 7: return ((int[][]) x).length;
                case 8: return ((Plain[]) x).length;
                case 9: return ((Round[]) x).length;
                default: return ((Sized[]) x).length;
            }
        });
    }

    private static long loaded(int type, Object x, int i) {
        switch (type) {
            case 0: return ((int[]) x)[i];
            case 1: return ((long[]) x)[i];
            case 2: return ((byte[]) x)[i];
            case 3: return ((char[]) x)[i];
            case 4: return ((short[]) x)[i];
            case 5: return Float.floatToIntBits(((float[]) x)[i]);
            default: return Double.doubleToLongBits(((double[]) x)[i]);
        }
    }

    long load(int type, int cell, int i) {
        return act(in(type, 0, 6) && isCell(cell), () -> loaded(type, cells[cell], i));
    }

    long store(int type, int cell, int i, long v) {
        return act(in(type, 0, 6) && isCell(cell), () -> {
            Object x = cells[cell];
            switch (type) {
                case 0: ((int[]) x)[i] = (int) v; break;
                case 1: ((long[]) x)[i] = v; break;
                case 2: ((byte[]) x)[i] = (byte) v; break;
                case 3: ((char[]) x)[i] = (char) v; break;
                case 4: ((short[]) x)[i] = (short) v; break;
                case 5: ((float[]) x)[i] = Float.intBitsToFloat((int) v); break;
                default: ((double[]) x)[i] = Double.longBitsToDouble(v);
            }
            return 1;
        });
    }

    private static boolean holdsThings(int type) {
        return in(type, 7, 9) || type == 15;
    }

    long take(int type, int cell, int i, int to) {
        return act(holdsThings(type) && isCell(cell) && isCell(to), () -> {
            Object x = cells[cell];
            switch (type) {
                case 7: cells[to] = ((int[][]) x)[i]; break;
                case 8: cells[to] = ((Plain[]) x)[i]; break;
                case 9: cells[to] = ((Round[]) x)[i]; break;
                default: cells[to] = ((Sized[]) x)[i];
            }
            return 1;
        });
    }

    long put(int type, int cell, int i, int from) {
        return act(holdsThings(type) && isCell(cell) && isCell(from), () -> {
            Object x = cells[cell];
            switch (type) {
                case 7: ((int[][]) x)[i] = (int[]) cells[from]; break;
                case 8: ((Plain[]) x)[i] = (Plain) cells[from]; break;
                case 9: ((Round[]) x)[i] = (Round) cells[from]; break;
                default: ((Sized[]) x)[i] = (Sized) cells[from];
            }
            return 1;
        });
    }

    long cross(int cell, int i, int j) {
        return act(isCell(cell), () -> ((int[][]) cells[cell])[i][j]);
    }

    @SuppressWarnings("SuspiciousSystemArraycopy")
    long copy(int from, int i, int to, int j, int n) {
        return act(isCell(from) && isCell(to), () -> {
            System.arraycopy(cells[from], i, cells[to], j, n);
            return 1;
        });
    }

    private static Plain own(int type, Object x) {
        return type == 10 ? (Plain) x : type == 11 ? (Round) x : (Square) x;
    }

    long field(int type, int cell) {
        return act(in(type, 10, 12) && isCell(cell), () -> own(type, cells[cell]).a);
    }

    long write(int type, int cell, int v) {
        return act(in(type, 10, 12) && isCell(cell), () -> {
            own(type, cells[cell]).a = v;
            return 1;
        });
    }

    long call(int cell, int which) {
        return act(isCell(cell) && in(which, 0, 6), () -> {
            Sized x = (Sized) cells[cell];
            switch (which) {
                case 0: return x.size();
                case 1: return x.twice();
                case 2: return ((Plain) x).mark();
                case 3: return ((Plain) x).step();
                case 4: return x.size() % 5;
                case 5: return trouble(x);
                default: return 1000 / ((Plain) x).a;
            }
        });
    }

    private static int trouble(Sized x) {
        if (x.size() < 0) {
            throw new OwnThrow();
        }
        return x.size();
    }

    // ---- numbers

    long divide(int how, long a, long b) {
        return act(in(how, 0, 3), () -> divided(how, a, b));
    }

    static long divided(int how, long a, long b) {
        switch (how) {
            case 0: return (int) a / (int) b;
            case 1: return (int) a % (int) b;
            case 2: return a / b;
            default: return a % b;
        }
    }

    long real(int how, long a, long b) {
        return act(in(how, 0, 7), () -> realOf(how, a, b));
    }

    static long realOf(int how, long aBits, long bBits) {
        double a = Double.longBitsToDouble(aBits);
        double b = Double.longBitsToDouble(bBits);
        switch (how) {
            case 0: return Double.doubleToLongBits(a + b);
            case 1: return Double.doubleToLongBits(a - b);
            case 2: return Double.doubleToLongBits(a * b);
            case 3: return Double.doubleToLongBits(a / b);
            case 4: return Double.doubleToLongBits(a % b);
            case 5: return Double.doubleToLongBits(Math.max(a, b));
            case 6: return Double.doubleToLongBits(Math.min(a, b));
            default: return Double.doubleToLongBits(StrictMath.copySign(a, b));
        }
    }

    long math(int how, long a) {
        return act(in(how, 0, 9), () -> mathOf(how, a));
    }

    static long mathOf(int how, long aBits) {
        double a = Double.longBitsToDouble(aBits);
        switch (how) {
            case 0: return Double.doubleToLongBits(Math.floor(a));
            case 1: return Double.doubleToLongBits(Math.ceil(a));
            case 2: return Double.doubleToLongBits(Math.rint(a));
            case 3: return Double.doubleToLongBits(Math.signum(a));
            case 4: return Double.doubleToLongBits(Math.abs(a));
            case 5: return Double.doubleToLongBits(Math.ulp(a));
            case 6: return Double.doubleToLongBits(Math.nextUp(a));
            case 7: return Double.doubleToLongBits(Math.scalb(a, 3));
            case 8: return Double.doubleToLongBits(Math.scalb(a, -3));
            default: return Math.getExponent(a);
        }
    }

    long narrow(int how, long a) {
        return act(in(how, 0, 5), () -> narrowed(how, a));
    }

    static long narrowed(int how, long aBits) {
        double a = Double.longBitsToDouble(aBits);
        switch (how) {
            case 0: return (int) a;
            case 1: return (long) a;
            case 2: return Float.floatToIntBits((float) a);
            case 3: return (byte) (int) a;
            case 4: return (char) (int) a;
            default: return (short) (int) a;
        }
    }

    long widen(int how, long a) {
        return act(in(how, 0, 3), () -> widened(how, a));
    }

    static long widened(int how, long a) {
        switch (how) {
            case 0: return Double.doubleToLongBits((double) a);
            case 1: return Float.floatToIntBits((float) a);
            case 2: return Double.doubleToLongBits(Float.intBitsToFloat((int) a));
            default: return Float.floatToIntBits((float) (int) a);
        }
    }

    long compare(int how, long a, long b) {
        return act(in(how, 0, 11), () -> compared(how, a, b) ? 1 : 0);
    }

    static boolean compared(int how, long aBits, long bBits) {
        double a = Double.longBitsToDouble(aBits);
        double b = Double.longBitsToDouble(bBits);
        float c = Float.intBitsToFloat((int) aBits);
        float d = Float.intBitsToFloat((int) bBits);
        boolean[] answers = {a < b, a <= b, a > b, a >= b, a == b, a != b, c < d, c <= d, c > d, c >= d, c == d, c != d};
        return answers[how];
    }

    // ---- frames, what was thrown

    long pass(int type, int cell, int i) {
        return act(in(type, 0, 6) && isCell(cell), () -> outer(type, cell, i));
    }

    private long outer(int type, int cell, int i) {
        trace = 0;
        try {
            long answer = middle(type, cell, i);
            trace += 64;
            return answer;
        } catch (ArrayIndexOutOfBoundsException thrown) {
            trace += 16;
            return -102;
        } catch (NullPointerException thrown) {
            trace += 32;
            throw thrown;
        }
    }

    private long middle(int type, int cell, int i) {
        try {
            return inner(type, cell, i);
        } catch (ClassCastException thrown) {
            trace += 4;
            return -104;
        } finally {
            trace += 8;
        }
    }

    private long inner(int type, int cell, int i) {
        trace += 1;
        long answer = loaded(type, cells[cell], i);
        trace += 2;
        return answer;
    }

    long trace() {
        return trace;
    }

    long latest() {
        return latest;
    }

    long thrown(int what) {
        return in(what, 1, 8) ? counts[what] : 0;
    }
}
