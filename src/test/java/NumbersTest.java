import java.util.Random;

/** Promises 17 to 22: each call on all pairs of edges and on many others, beside what the Java machine itself answers. */
public final class NumbersTest {
    private static final int DIVISION = 6;
    private static final int RANDOM_ROUNDS = 400_000;
    /** Each is a call and a latest(): an object answers 512 calls. */
    private static final int CHECKS_OF_AN_OBJECT = 256;
    private static final long[] DOUBLES = doubles();
    private static final long[] FLOATS = floats();
    private static final long[] LONGS = longs();

    private static ThrowModels x = new ThrowModels();
    private static int checks = 0;

    public static void main(String[] args) {
        promise17Divide();
        promise18Real();
        promise19Math();
        promise20Narrow();
        promise21Widen();
        promise22Compare();
        random();
        Check.end();
    }

    // ---- numbers on the edges

    private static long[] doubles() {
        double[] edges = {
            0, Double.MIN_VALUE, 2 * Double.MIN_VALUE, 3 * Double.MIN_VALUE, 4 * Double.MIN_VALUE, 12 * Double.MIN_VALUE,
            20 * Double.MIN_VALUE, Math.nextDown(Double.MIN_NORMAL), Double.MIN_NORMAL, Math.nextUp(Double.MIN_NORMAL),
            8 * Double.MIN_NORMAL, 9 * Double.MIN_NORMAL, 1e-300, Math.nextDown(0.5), 0.5, Math.nextUp(0.5), 0.1,
            Math.nextDown(1.0), 1, Math.nextUp(1.0), 1.5, 2, 2.5, 3, 3.5, 5, 7, 10, 1000, 300.7, 127.9, 128, 255.5, 32768,
            65535.9, 65536, 2147483646.5, 2147483647, 2147483647.5, 2147483648.0, 4294967295.0, 4294967296.0,
            0x1p51 + 0.5, 0x1p52 - 0.5, 0x1p52, 0x1p52 + 1, 0x1p53, 0x1p53 + 2, 0x1p62, Math.nextDown(0x1p63), 0x1p63,
            Math.nextUp(0x1p63), 0x1p64, Float.MAX_VALUE, 0x1.ffffffp127, Math.nextDown(0x1.ffffffp127),
            Math.nextUp(0x1.ffffffp127), 0x1p128, Float.MIN_VALUE, 0x1p-150, Math.nextUp(0x1p-150), 0x1.8p-149,
            Float.MIN_NORMAL, Math.nextDown(Float.MIN_NORMAL), Math.nextUp(Float.MIN_NORMAL), 1 + 0x1p-24, 1 + 0x1.8p-23,
            1e300, 0x1p1020, 0x1p1021, 0x1p1023, Math.nextDown(Double.MAX_VALUE), Double.MAX_VALUE, Double.POSITIVE_INFINITY,
        };
        long[] bits = new long[2 * edges.length + 5];
        for (int i = 0; i < edges.length; i++) {
            bits[2 * i] = Double.doubleToRawLongBits(edges[i]);
            bits[2 * i + 1] = bits[2 * i] | Long.MIN_VALUE;
        }
        long[] nans = {0x7ff8000000000000L, 0x7ff0000000000001L, 0xfff0000000000001L, 0xfff8000000000000L, -1L};
        System.arraycopy(nans, 0, bits, 2 * edges.length, nans.length);
        return bits;
    }

    private static long[] floats() {
        int[] magnitudes = {
            0, 1, 2, 3, 0x7ffffe, 0x7fffff, 0x800000, 0x800001, 0x3effffff, 0x3f000000, 0x3f800000, 0x3f800001, 0x40490fdb,
            0x4b000000, 0x4effffff, 0x4f000000, 0x7f7fffff, 0x7f800000, 0x7f800001, 0x7fbfffff, 0x7fc00000, 0x7fffffff,
        };
        long[] bits = new long[3 * magnitudes.length];
        for (int i = 0; i < magnitudes.length; i++) {
            bits[3 * i] = magnitudes[i];
            bits[3 * i + 1] = magnitudes[i] | 0x80000000;
            bits[3 * i + 2] = magnitudes[i] | 0x1234567800000000L;
        }
        return bits;
    }

    private static long[] longs() {
        long[] some = {
            0, 1, 2, 3, 5, 7, 10, 255, 0x7fff, 0xffffff, 0x1000000, 0x1000001, 0x1000003, 0x7fffff80L, 0x7fffffbfL, 0x7fffffc0L,
            0x7fffffffL, 0x80000000L, 0xffffffffL, 0x100000000L, 0x1fffffffffffffL, 0x20000000000000L, 0x20000000000001L,
            0x20000000000003L, 0x7ffffffffffffdffL, 0x7ffffffffffffe00L, 0x7fffffbfffffffffL, 0x7fffffc000000000L,
            0x4000004000000001L, 0x4000004000000000L, 0x4000000000000200L, 0x4000000000000201L, 0x4000000000000600L,
            Long.MAX_VALUE, Long.MIN_VALUE,
        };
        long[] all = new long[2 * some.length];
        for (int i = 0; i < some.length; i++) {
            all[2 * i] = some[i];
            all[2 * i + 1] = -some[i];
        }
        return all;
    }

    // ---- all edges

    private static void promise17Divide() {
        for (int how = 0; how < 4; how++) {
            for (long a : LONGS) {
                for (long b : LONGS) {
                    divide(how, a, b);
                }
            }
        }
    }

    private static void promise18Real() {
        for (int how = 0; how < 8; how++) {
            for (long a : DOUBLES) {
                for (long b : DOUBLES) {
                    real(how, a, b);
                }
            }
        }
    }

    private static void promise19Math() {
        for (int how = 0; how < 10; how++) {
            for (long a : DOUBLES) {
                math(how, a);
            }
        }
    }

    private static void promise20Narrow() {
        for (int how = 0; how < 6; how++) {
            for (long a : DOUBLES) {
                narrow(how, a);
            }
        }
    }

    private static void promise21Widen() {
        for (int how = 0; how < 4; how++) {
            for (long a : how == 2 ? FLOATS : LONGS) {
                widen(how, a);
            }
        }
    }

    private static void promise22Compare() {
        for (int how = 0; how < 12; how++) {
            long[] numbers = how < 6 ? DOUBLES : FLOATS;
            for (long a : numbers) {
                for (long b : numbers) {
                    compare(how, a, b);
                }
            }
        }
    }

    // ---- others

    private static void random() {
        Random random = new Random(20261118);
        for (int round = 0; round < RANDOM_ROUNDS; round++) {
            long a = someDouble(random);
            long b = random.nextInt(4) == 0 ? near(random, a) : someDouble(random);
            real(random.nextInt(8), a, b);
            real(random.nextInt(5), a, b);
            math(random.nextInt(10), a);
            narrow(random.nextInt(6), a);
            widen(2, random.nextLong());
            widen(random.nextInt(4), random.nextLong() >> random.nextInt(64));
            compare(random.nextInt(12), a, b);
            divide(random.nextInt(4), random.nextLong() >> random.nextInt(64), random.nextLong() >> random.nextInt(64));
        }
    }

    private static long someDouble(Random random) {
        long sign = random.nextLong() & Long.MIN_VALUE;
        long fraction = random.nextLong() >>> 12;
        if (random.nextBoolean()) {
            fraction &= -1L << random.nextInt(52);
        }
        switch (random.nextInt(5)) {
            case 0:
                return random.nextLong();
            case 1:
                return sign | fraction >>> random.nextInt(52);
            case 2:
                return sign | (long) (1023 + random.nextInt(70)) << 52 | fraction;
            case 3:
                return sign | (long) (1023 - 151 + random.nextInt(281)) << 52 | fraction;
            default:
                return DOUBLES[random.nextInt(DOUBLES.length)];
        }
    }

    /** A number whose exponent is not far from another's, so that sums cancel and round. */
    private static long near(Random random, long a) {
        long moved = a + ((long) (random.nextInt(121) - 60) << 52);
        return moved ^ random.nextLong() >>> random.nextInt(64);
    }

    // ---- beside what the machine answers

    private static void renew() {
        checks++;
        if (checks % CHECKS_OF_AN_OBJECT == 0) {
            x = new ThrowModels();
        }
    }

    private static void divide(int how, long a, long b) {
        renew();
        String call = "divide(" + how + ", " + a + ", " + b + ")";
        if (how < 2 ? (int) b == 0 : b == 0) {
            Check.throwsNow(x, call, x.divide(how, a, b), DIVISION);
            return;
        }
        Check.works(x, call, x.divide(how, a, b), Machine.divided(how, a, b));
    }

    private static void real(int how, long a, long b) {
        renew();
        Check.works(x, "real(" + how + ", " + a + ", " + b + ")", x.real(how, a, b), Machine.realOf(how, a, b));
    }

    private static void math(int how, long a) {
        renew();
        Check.works(x, "math(" + how + ", " + a + ")", x.math(how, a), Machine.mathOf(how, a));
    }

    private static void narrow(int how, long a) {
        renew();
        Check.works(x, "narrow(" + how + ", " + a + ")", x.narrow(how, a), Machine.narrowed(how, a));
    }

    private static void widen(int how, long a) {
        renew();
        Check.works(x, "widen(" + how + ", " + a + ")", x.widen(how, a), Machine.widened(how, a));
    }

    private static void compare(int how, long a, long b) {
        renew();
        Check.works(x, "compare(" + how + ", " + a + ", " + b + ")", x.compare(how, a, b), Machine.compared(how, a, b) ? 1 : 0);
    }
}
