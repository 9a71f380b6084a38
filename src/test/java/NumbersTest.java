import java.util.Random;

/** Promises 17 to 22: each call on all pairs of edges and on many others, beside what the machine itself answers. */
public final class NumbersTest {
    private static final int REFUSED = 8;
    private static final int DIVISION = 6;
    private static final int RANDOM_ROUNDS = 400_000;
    private static final int[] NO_HOWS = {-1, 12, Integer.MIN_VALUE, Integer.MAX_VALUE};
    private static final long[] DOUBLES = doubles();
    private static final long[] FLOATS = floats();
    private static final long[] LONGS = longs();

    private static final ThrowModels X = new ThrowModels();

    public static void main(String[] args) {
        promise17Divide();
        promise18Real();
        promise19Math();
        promise20Narrow();
        promise21Widen();
        promise22Compare();
        refused();
        someByHand();
        random();
        Check.end();
    }

    // ---- numbers on the edges

    private static long[] doubles() {
        double[] edges = {
            0, Double.MIN_VALUE, 2 * Double.MIN_VALUE, 3 * Double.MIN_VALUE, 4 * Double.MIN_VALUE, 12 * Double.MIN_VALUE,
            20 * Double.MIN_VALUE, Math.nextDown(Double.MIN_NORMAL), Double.MIN_NORMAL, Math.nextUp(Double.MIN_NORMAL),
            8 * Double.MIN_NORMAL, 9 * Double.MIN_NORMAL, 1e-300, Math.nextDown(0.5), 0.5, Math.nextUp(0.5), 0.1,
            Math.nextDown(1.0), 1, Math.nextUp(1.0), 1.5, 2, 2.5, 3, 3.5, 5, 7, 10, 1000, 300.7, 127.9, 128, 255.5, 32768,
            65535.9, 65536, 2147483646.5, 2147483647, 2147483647.5, 2147483648.0, 4294967295.0, 4294967296.0,
            0x1p51 + 0.5, 0x1p52 - 0.5, 0x1p52, 0x1p52 + 1, 0x1p53, 0x1p53 + 2, 0x1p62, Math.nextDown(0x1p63), 0x1p63,
            Math.nextUp(0x1p63), 0x1p64, Float.MAX_VALUE, 0x1.ffffffp127, Math.nextDown(0x1.ffffffp127),
            Math.nextUp(0x1.ffffffp127), 0x1p128, Float.MIN_VALUE, 0x1p-150, Math.nextUp(0x1p-150), 0x1.8p-149,
            Float.MIN_NORMAL, Math.nextDown(Float.MIN_NORMAL), Math.nextUp(Float.MIN_NORMAL), 1 + 0x1p-24, 1 + 0x1.8p-23,
            1e300, 0x1p1020, 0x1p1021, 0x1p1023, Math.nextDown(Double.MAX_VALUE), Double.MAX_VALUE, Double.POSITIVE_INFINITY,
        };
        long[] bits = new long[2 * edges.length + 5];
        for (int i = 0; i < edges.length; i++) {
            bits[2 * i] = Double.doubleToRawLongBits(edges[i]);
            bits[2 * i + 1] = bits[2 * i] | Long.MIN_VALUE;
        }
        long[] nans = {0x7ff8000000000000L, 0x7ff0000000000001L, 0xfff0000000000001L, 0xfff8000000000000L, -1L};
        System.arraycopy(nans, 0, bits, 2 * edges.length, nans.length);
        return bits;
    }

    private static long[] floats() {
        int[] magnitudes = {
            0, 1, 2, 3, 0x7ffffe, 0x7fffff, 0x800000, 0x800001, 0x3effffff, 0x3f000000, 0x3f800000, 0x3f800001, 0x40490fdb,
            0x4b000000, 0x4effffff, 0x4f000000, 0x7f7fffff, 0x7f800000, 0x7f800001, 0x7fbfffff, 0x7fc00000, 0x7fffffff,
        };
        long[] bits = new long[3 * magnitudes.length];
        for (int i = 0; i < magnitudes.length; i++) {
            bits[3 * i] = magnitudes[i];
            bits[3 * i + 1] = magnitudes[i] | 0x80000000;
            bits[3 * i + 2] = magnitudes[i] | 0x1234567800000000L;
        }
        return bits;
    }

    private static long[] longs() {
        long[] some = {
            0, 1, 2, 3, 5, 7, 10, 255, 0x7fff, 0xffffff, 0x1000000, 0x1000001, 0x1000003, 0x7fffff80L, 0x7fffffbfL, 0x7fffffc0L,
            0x7fffffffL, 0x80000000L, 0xffffffffL, 0x100000000L, 0x1fffffffffffffL, 0x20000000000000L, 0x20000000000001L,
            0x20000000000003L, 0x7ffffffffffffdffL, 0x7ffffffffffffe00L, 0x7fffffbfffffffffL, 0x7fffffc000000000L,
            0x4000004000000001L, 0x4000004000000000L, 0x4000000000000200L, 0x4000000000000201L, 0x4000000000000600L,
            Long.MAX_VALUE, Long.MIN_VALUE,
        };
        long[] all = new long[2 * some.length];
        for (int i = 0; i < some.length; i++) {
            all[2 * i] = some[i];
            all[2 * i + 1] = -some[i];
        }
        return all;
    }

    // ---- all edges

    private static void promise17Divide() {
        for (int how = 0; how < 4; how++) {
            for (long a : LONGS) {
                for (long b : LONGS) {
                    divide(how, a, b);
                }
                Check.throwsNow(X, "divide(" + how + ", " + a + ", 0)", X.divide(how, a, 0), DIVISION);
            }
        }
        Check.throwsNow(X, "an int that is cut to 0", X.divide(0, 5, 0x100000000L), DIVISION);
        Check.throwsNow(X, "an int that is cut to 0", X.divide(1, 5, 0x700000000L), DIVISION);
        Check.works(X, "a long that is not", X.divide(2, 0x700000000L, 0x100000000L), 7);
    }

    private static void promise18Real() {
        for (int how = 0; how < 8; how++) {
            for (long a : DOUBLES) {
                for (long b : DOUBLES) {
                    real(how, a, b);
                }
            }
        }
    }

    private static void promise19Math() {
        for (int how = 0; how < 10; how++) {
            for (long a : DOUBLES) {
                math(how, a);
            }
        }
    }

    private static void promise20Narrow() {
        for (int how = 0; how < 6; how++) {
            for (long a : DOUBLES) {
                narrow(how, a);
            }
        }
    }

    private static void promise21Widen() {
        for (int how = 0; how < 4; how++) {
            for (long a : how == 2 ? FLOATS : LONGS) {
                widen(how, a);
            }
        }
    }

    private static void promise22Compare() {
        for (int how = 0; how < 12; how++) {
            long[] numbers = how < 6 ? DOUBLES : FLOATS;
            for (long a : numbers) {
                for (long b : numbers) {
                    compare(how, a, b);
                }
            }
        }
    }

    private static void refused() {
        for (int how : NO_HOWS) {
            Check.throwsNow(X, "divide(no how, 1, 0)", X.divide(how, 1, 0), REFUSED);
            Check.throwsNow(X, "real(no how, 1, 1)", X.real(how, 1, 1), REFUSED);
            Check.throwsNow(X, "math(no how, 1)", X.math(how, 1), REFUSED);
            Check.throwsNow(X, "narrow(no how, 1)", X.narrow(how, 1), REFUSED);
            Check.throwsNow(X, "widen(no how, 1)", X.widen(how, 1), REFUSED);
            Check.throwsNow(X, "compare(no how, 1, 1)", X.compare(how, 1, 1), REFUSED);
        }
        Check.throwsNow(X, "divide(4, 1, 0)", X.divide(4, 1, 0), REFUSED);
        Check.throwsNow(X, "real(8, 1, 1)", X.real(8, 1, 1), REFUSED);
        Check.throwsNow(X, "math(10, 1)", X.math(10, 1), REFUSED);
        Check.throwsNow(X, "narrow(6, 1)", X.narrow(6, 1), REFUSED);
        Check.throwsNow(X, "widen(4, 1)", X.widen(4, 1), REFUSED);
    }

    /** Answers told here as numbers, so that not all rests on the machine's own. */
    private static void someByHand() {
        long nan = 0x7ff8000000000000L;
        long negativeZero = Long.MIN_VALUE;
        Check.works(X, "int divided by -1", X.divide(0, Integer.MIN_VALUE, -1), Integer.MIN_VALUE);
        Check.works(X, "long divided by -1", X.divide(2, Long.MIN_VALUE, -1), Long.MIN_VALUE);
        Check.works(X, "-7 % 2", X.divide(3, -7, 2), -1);
        Check.works(X, "-0 + -0", X.real(0, negativeZero, negativeZero), negativeZero);
        Check.works(X, "max of NaN", X.real(5, 0, -1L), nan);
        Check.works(X, "min of 0 and -0", X.real(6, 0, negativeZero), negativeZero);
        Check.works(X, "1 with the sign of a NaN below 0", X.real(7, 0x3ff0000000000000L, -1L), 0x3ff0000000000000L);
        Check.works(X, "rint of 2.5", X.math(2, 0x4004000000000000L), 0x4000000000000000L);
        Check.works(X, "ceil of -0.5", X.math(1, 0xbfe0000000000000L), negativeZero);
        Check.works(X, "nextUp of the least below 0", X.math(6, negativeZero + 1), negativeZero);
        Check.works(X, "1.5 of the least, down by 3 places", X.math(8, 12), 2);
        Check.works(X, "the exponent of NaN", X.math(9, -1L), 1024);
        Check.works(X, "NaN to a long", X.narrow(1, nan), 0);
        Check.works(X, "- 1 to a char", X.narrow(4, 0xbff0000000000000L), 65535);
        Check.works(X, "-0 to a float", X.narrow(2, negativeZero), Integer.MIN_VALUE);
        Check.works(X, "- 1 as a float", X.widen(3, 0xffffffffL), 0xbf800000);
        Check.works(X, "-0 == 0", X.compare(4, negativeZero, 0), 1);
        Check.works(X, "NaN != NaN", X.compare(5, nan, nan), 1);
        Check.works(X, "a float's upper bits do not count", X.compare(10, 0x500000001L, 1), 1);
    }

    // ---- others

    private static void random() {
        Random random = new Random(20261118);
        for (int round = 0; round < RANDOM_ROUNDS; round++) {
            long a = someDouble(random);
            long b = random.nextInt(4) == 0 ? near(random, a) : someDouble(random);
            real(random.nextInt(8), a, b);
            real(random.nextInt(5), a, b);
            math(random.nextInt(10), a);
            narrow(random.nextInt(6), a);
            widen(2, random.nextLong());
            widen(random.nextInt(4), random.nextLong() >> random.nextInt(64));
            compare(random.nextInt(12), a, b);
            divide(random.nextInt(4), random.nextLong() >> random.nextInt(64), random.nextLong() >> random.nextInt(64));
        }
    }

    private static long someDouble(Random random) {
        long sign = random.nextLong() & Long.MIN_VALUE;
        long fraction = random.nextLong() >>> 12;
        if (random.nextBoolean()) {
            fraction &= -1L << random.nextInt(52);
        }
        switch (random.nextInt(5)) {
            case 0:
                return random.nextLong();
            case 1:
                return sign | fraction >>> random.nextInt(52);
            case 2:
                return sign | (long) (1023 + random.nextInt(70)) << 52 | fraction;
            case 3:
                return sign | (long) (1023 - 151 + random.nextInt(281)) << 52 | fraction;
            default:
                return DOUBLES[random.nextInt(DOUBLES.length)];
        }
    }

    /** A number whose exponent is not far from another's, so that sums cancel and round. */
    private static long near(Random random, long a) {
        long moved = a + ((long) (random.nextInt(121) - 60) << 52);
        return moved ^ random.nextLong() >>> random.nextInt(64);
    }

    // ---- beside what the machine answers

    private static void divide(int how, long a, long b) {
        String call = "divide(" + how + ", " + a + ", " + b + ")";
        if (how < 2 ? (int) b == 0 : b == 0) {
            Check.throwsNow(X, call, X.divide(how, a, b), DIVISION);
            return;
        }
        Check.works(X, call, X.divide(how, a, b), Machine.divided(how, a, b));
    }

    private static void real(int how, long a, long b) {
        Check.works(X, "real(" + how + ", " + a + ", " + b + ")", X.real(how, a, b), Machine.realOf(how, a, b));
    }

    private static void math(int how, long a) {
        Check.works(X, "math(" + how + ", " + a + ")", X.math(how, a), Machine.mathOf(how, a));
    }

    private static void narrow(int how, long a) {
        Check.works(X, "narrow(" + how + ", " + a + ")", X.narrow(how, a), Machine.narrowed(how, a));
    }

    private static void widen(int how, long a) {
        Check.works(X, "widen(" + how + ", " + a + ")", X.widen(how, a), Machine.widened(how, a));
    }

    private static void compare(int how, long a, long b) {
        Check.works(X, "compare(" + how + ", " + a + ", " + b + ")", X.compare(how, a, b), Machine.compared(how, a, b) ? 1 : 0);
    }
}
