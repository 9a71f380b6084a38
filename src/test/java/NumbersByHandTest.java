/** Promises 17 to 22 with section 3 of the terms: edges, with answers told here as numbers. */
final class NumbersByHandTest extends Cases {
    private static final long LOWEST = Long.MIN_VALUE;
    private static final long HIGHEST = Long.MAX_VALUE;
    /** The sign of a double; alone, it is - 0. */
    private static final long MINUS = Long.MIN_VALUE;
    private static final long MINUS_0 = MINUS;
    private static final long LEAST = 1;
    private static final long GREATEST_BELOW_NORMAL = 0x000fffffffffffffL;
    private static final long LEAST_NORMAL = 0x0010000000000000L;
    private static final long HALF = 0x3fe0000000000000L;
    private static final long ONE = 0x3ff0000000000000L;
    private static final long ONE_AND_A_HALF = 0x3ff8000000000000L;
    private static final long TWO = 0x4000000000000000L;
    private static final long TWO_AND_A_HALF = 0x4004000000000000L;
    private static final long THREE = 0x4008000000000000L;
    private static final long FOUR = 0x4010000000000000L;
    private static final long EIGHT = 0x4020000000000000L;
    private static final long TWO_TO_52 = 0x4330000000000000L;
    private static final long GREATEST = 0x7fefffffffffffffL;
    private static final long INFINITY = 0x7ff0000000000000L;
    private static final long NAN = 0x7ff8000000000000L;
    private static final long[] NANS = {
        0x7ff0000000000001L, 0x7ff7ffffffffffffL, NAN, NAN + 1, HIGHEST, 0xfff0000000000001L, 0xfff8000000000000L, -1,
    };
    /** As a float's bits are told: the highest one spread. */
    private static final long FLOAT_MINUS_0 = MIN;
    private static final long FLOAT_ONE = 0x3f800000L;
    private static final long FLOAT_INFINITY = 0x7f800000L;
    private static final long FLOAT_MINUS_INFINITY = -0x800000L;
    private static final long FLOAT_NAN = 0x7fc00000L;
    private static final int PLUS = 0;
    private static final int LESS = 1;
    private static final int TIMES = 2;
    private static final int BY = 3;
    private static final int REST = 4;
    private static final int GREATER = 5;
    private static final int LESSER = 6;
    private static final int SIGN_OF = 7;

    public static void main(String[] args) {
        run(NumbersByHandTest.class);
    }

    private static void divides(int how, long a, long b, long want) {
        works("divide(" + how + ", " + a + ", " + b + ")", x.divide(how, a, b), want);
    }

    private static void isDivision(int how, long a, long b) {
        throwsNow("divide(" + how + ", " + a + ", " + b + ")", x.divide(how, a, b), DIVISION);
    }

    private static String hex(long bits) {
        return "0x" + Long.toHexString(bits);
    }

    private static void reals(int how, long a, long b, long want) {
        works("real(" + how + ", " + hex(a) + ", " + hex(b) + ")", x.real(how, a, b), want);
    }

    private static void maths(int how, long a, long want) {
        works("math(" + how + ", " + hex(a) + ")", x.math(how, a), want);
    }

    /** Of a and of - a, whose answers differ in the sign alone. */
    private static void mathsOfBothSigns(int how, long a, long want) {
        maths(how, a, want);
        maths(how, a | MINUS, want | MINUS);
    }

    private static void narrows(int how, long a, long want) {
        works("narrow(" + how + ", " + hex(a) + ")", x.narrow(how, a), want);
    }

    private static void widens(int how, long a, long want) {
        works("widen(" + how + ", " + hex(a) + ")", x.widen(how, a), want);
    }

    /** What < <= > >= == != answer, in this order, of doubles (first 0) or of floats (first 6). */
    private static void compares(int first, long a, long b, String wants) {
        for (int how = 0; how < 6; how++) {
            String call = "compare(" + (first + how) + ", " + hex(a) + ", " + hex(b) + ")";
            works(call, x.compare(first + how, a, b), wants.charAt(how) - '0');
        }
    }

    // ---- 17: divide

    static void promise17IsCutToward0() {
        for (int how : new int[] {0, 2}) {
            divides(how, 7, 2, 3);
            divides(how, -7, 2, -3);
            divides(how, 7, -2, -3);
            divides(how, -7, -2, 3);
            divides(how, 1, 2, 0);
            divides(how, -1, 2, 0);
            divides(how, 0, -5, 0);
        }
    }

    static void promise17TheRestIsOfTheSignOfTheFirst() {
        for (int how : new int[] {1, 3}) {
            divides(how, 7, 2, 1);
            divides(how, -7, 2, -1);
            divides(how, 7, -2, 1);
            divides(how, -7, -2, -1);
            divides(how, 6, -2, 0);
            divides(how, -1, 2, -1);
            divides(how, 0, -5, 0);
        }
    }

    static void promise17TheLowestIntByMinus1Wraps() {
        divides(0, MIN, -1, MIN);
        divides(0, 0x80000000L, 0xffffffffL, MIN);
        divides(1, MIN, -1, 0);
        divides(0, MIN + 1, -1, MAX);
        divides(0, MIN, 1, MIN);
        divides(0, MIN, MIN, 1);
        divides(1, MIN, MAX, -1);
        divides(1, MAX, MIN, MAX);
    }

    static void promise17TheLowestLongByMinus1Wraps() {
        divides(2, LOWEST, -1, LOWEST);
        divides(3, LOWEST, -1, 0);
        divides(2, LOWEST + 1, -1, HIGHEST);
        divides(2, LOWEST, 1, LOWEST);
        divides(2, LOWEST, LOWEST, 1);
        divides(3, LOWEST, HIGHEST, -1);
        divides(3, HIGHEST, LOWEST, HIGHEST);
    }

    static void promise17TheLowestIntAsALongDoesNotWrap() {
        divides(2, MIN, -1, 0x80000000L);
        divides(2, 0x80000000L, 0xffffffffL, 0);
        divides(3, 0x80000000L, 0xffffffffL, 0x80000000L);
    }

    static void promise17IntsAreTheLowest32Bits() {
        divides(0, 0x100000007L, 2, 3);
        divides(0, 7, 0x100000002L, 3);
        divides(0, 0xfffffff9L, 2, -3);
        divides(1, 0x7fffffff00000007L, 0x500000004L, 3);
        divides(1, 0xfffffff9L, 4, -3);
        divides(0, LOWEST, 5, 0);
        divides(0, HIGHEST, 1, -1);
    }

    static void promise17By0IsDivision() {
        for (int how = 0; how < 4; how++) {
            for (long a : new long[] {0, 1, -1, MIN, MAX, LOWEST, HIGHEST}) {
                isDivision(how, a, 0);
            }
        }
    }

    static void promise17ByALongWhoseIntIs0() {
        for (long b : new long[] {0x100000000L, -0x100000000L, LOWEST}) {
            isDivision(0, 5, b);
            isDivision(1, 5, b);
            divides(2, 5, b, 0);
            divides(3, 5, b, 5);
        }
    }

    static void promise17NoHowIsRefusedFirst() {
        for (int how : new int[] {-1, 4, MIN, MAX}) {
            throwsNow("divide(" + how + ", 1, 1)", x.divide(how, 1, 1), REFUSED);
            throwsNow("divide(" + how + ", 1, 0): ahead of DIVISION", x.divide(how, 1, 0), REFUSED);
        }
        due("thrown(6)", x.thrown(DIVISION), 0);
    }

    // ---- 18: real

    static void promise18BothZerosAreAdded() {
        reals(PLUS, 0, 0, 0);
        reals(PLUS, 0, MINUS_0, 0);
        reals(PLUS, MINUS_0, 0, 0);
        reals(PLUS, MINUS_0, MINUS_0, MINUS_0);
        reals(PLUS, ONE, MINUS_0, ONE);
        reals(PLUS, 0, ONE | MINUS, ONE | MINUS);
        reals(PLUS, ONE, ONE | MINUS, 0);
        reals(PLUS, ONE | MINUS, ONE, 0);
    }

    static void promise18BothZerosAreSubtracted() {
        reals(LESS, 0, 0, 0);
        reals(LESS, 0, MINUS_0, 0);
        reals(LESS, MINUS_0, 0, MINUS_0);
        reals(LESS, MINUS_0, MINUS_0, 0);
        reals(LESS, ONE, ONE, 0);
        reals(LESS, ONE | MINUS, ONE | MINUS, 0);
        reals(LESS, 0, ONE, ONE | MINUS);
    }

    static void promise18TheLeastAreAddedAndSubtracted() {
        reals(PLUS, LEAST, LEAST, 2);
        reals(PLUS, GREATEST_BELOW_NORMAL, LEAST, LEAST_NORMAL);
        reals(LESS, LEAST_NORMAL, LEAST, GREATEST_BELOW_NORMAL);
        reals(LESS, LEAST, LEAST, 0);
        reals(LESS, LEAST, 2, LEAST | MINUS);
        reals(PLUS, ONE, LEAST, ONE);
        reals(LESS, GREATEST, LEAST, GREATEST);
    }

    static void promise18TheGreatestAreAddedBeyondAll() {
        long halfOfALastPlace = 0x7c90000000000000L;
        reals(PLUS, GREATEST, GREATEST, INFINITY);
        reals(LESS, GREATEST | MINUS, GREATEST, INFINITY | MINUS);
        reals(PLUS, GREATEST, halfOfALastPlace, INFINITY);
        reals(PLUS, GREATEST, halfOfALastPlace - 1, GREATEST);
        reals(LESS, GREATEST, GREATEST, 0);
        reals(PLUS, GREATEST, ONE, GREATEST);
    }

    static void promise18SumsAreRoundedToTheEvenOne() {
        long halfOfALastPlace = 0x3ca0000000000000L;
        reals(PLUS, ONE, halfOfALastPlace, ONE);
        reals(PLUS, ONE + 1, halfOfALastPlace, ONE + 2);
        reals(PLUS, ONE, halfOfALastPlace + 1, ONE + 1);
        reals(PLUS, ONE + 1, halfOfALastPlace - 1, ONE + 1);
        reals(LESS, TWO, halfOfALastPlace, TWO);
        reals(LESS, ONE, halfOfALastPlace, ONE - 1);
    }

    static void promise18InfinitiesAreAddedAndSubtracted() {
        reals(PLUS, INFINITY, INFINITY, INFINITY);
        reals(PLUS, INFINITY, INFINITY | MINUS, NAN);
        reals(PLUS, INFINITY | MINUS, INFINITY, NAN);
        reals(PLUS, INFINITY | MINUS, GREATEST, INFINITY | MINUS);
        reals(PLUS, GREATEST | MINUS, INFINITY, INFINITY);
        reals(LESS, INFINITY, INFINITY, NAN);
        reals(LESS, INFINITY | MINUS, INFINITY | MINUS, NAN);
        reals(LESS, INFINITY, INFINITY | MINUS, INFINITY);
        reals(LESS, ONE, INFINITY, INFINITY | MINUS);
    }

    static void promise18SignsAreMultiplied() {
        reals(TIMES, TWO, THREE, 0x4018000000000000L);
        reals(TIMES, TWO | MINUS, THREE, 0x4018000000000000L | MINUS);
        reals(TIMES, TWO | MINUS, THREE | MINUS, 0x4018000000000000L);
        reals(TIMES, 0, ONE | MINUS, MINUS_0);
        reals(TIMES, MINUS_0, ONE | MINUS, 0);
        reals(TIMES, MINUS_0, 0, MINUS_0);
        reals(TIMES, MINUS_0, MINUS_0, 0);
    }

    static void promise18TheLeastAndTheGreatestAreMultiplied() {
        reals(TIMES, LEAST, HALF, 0);
        reals(TIMES, LEAST | MINUS, HALF, MINUS_0);
        reals(TIMES, LEAST, HALF + 1, LEAST);
        reals(TIMES, 3, HALF, 2);
        reals(TIMES, 5, HALF, 2);
        reals(TIMES, LEAST, LEAST, 0);
        reals(TIMES, LEAST, 0x3fb999999999999aL, 0);
        reals(TIMES, LEAST, 0x41dfffffffa00000L, 0x7ffffffeL);
        reals(TIMES, LEAST_NORMAL, HALF, 0x0008000000000000L);
        reals(TIMES, GREATEST, TWO, INFINITY);
        reals(TIMES, GREATEST, TWO | MINUS, INFINITY | MINUS);
        reals(TIMES, GREATEST, ONE, GREATEST);
        reals(TIMES, GREATEST, ONE + 1, INFINITY);
        reals(TIMES, GREATEST, LEAST, 0x3ccfffffffffffffL);
    }

    static void promise18ProductsAreRoundedOnce() {
        reals(TIMES, ONE + 1, ONE + 1, ONE + 2);
        reals(TIMES, ONE - 1, ONE + 1, ONE);
        reals(TIMES, ONE - 1, ONE - 1, ONE - 2);
        reals(TIMES, ONE + 0x4000000L, ONE + 0x2000000L, ONE + 0x6000000L);
        reals(TIMES, ONE + 0x4000001L, ONE + 0x2000000L, ONE + 0x6000002L);
        reals(TIMES, 25, 0x3f947ae147ae147bL, LEAST);
        reals(TIMES, 25, 0x3f947ae147ae147aL, 0);
    }

    static void promise18InfinitiesAreMultiplied() {
        reals(TIMES, INFINITY, 0, NAN);
        reals(TIMES, MINUS_0, INFINITY, NAN);
        reals(TIMES, INFINITY, LEAST, INFINITY);
        reals(TIMES, INFINITY, LEAST | MINUS, INFINITY | MINUS);
        reals(TIMES, INFINITY | MINUS, INFINITY | MINUS, INFINITY);
    }

    static void promise18DivisionBy0IsNoThrow() {
        reals(BY, ONE, 0, INFINITY);
        reals(BY, ONE, MINUS_0, INFINITY | MINUS);
        reals(BY, ONE | MINUS, 0, INFINITY | MINUS);
        reals(BY, LEAST, 0, INFINITY);
        reals(BY, INFINITY, 0, INFINITY);
        reals(BY, INFINITY, MINUS_0, INFINITY | MINUS);
        reals(BY, ONE | MINUS, MINUS_0, INFINITY);
        reals(BY, 0, 0, NAN);
        reals(BY, 0, MINUS_0, NAN);
        reals(BY, MINUS_0, 0, NAN);
        due("thrown(6)", x.thrown(DIVISION), 0);
    }

    static void promise18InfinitiesAreDivided() {
        reals(BY, INFINITY, INFINITY, NAN);
        reals(BY, INFINITY | MINUS, INFINITY, NAN);
        reals(BY, ONE, INFINITY, 0);
        reals(BY, ONE | MINUS, INFINITY, MINUS_0);
        reals(BY, GREATEST, INFINITY | MINUS, MINUS_0);
        reals(BY, INFINITY, GREATEST | MINUS, INFINITY | MINUS);
        reals(BY, 0, INFINITY, 0);
        reals(BY, MINUS_0, INFINITY | MINUS, 0);
        reals(BY, INFINITY | MINUS, ONE | MINUS, INFINITY);
    }

    static void promise18QuotientsAreRounded() {
        reals(BY, ONE, THREE, 0x3fd5555555555555L);
        reals(BY, TWO, THREE, 0x3fe5555555555555L);
        reals(BY, ONE, 0x4024000000000000L, 0x3fb999999999999aL);
        reals(BY, 0, THREE | MINUS, MINUS_0);
        reals(BY, THREE, ONE, THREE);
        reals(BY, MINUS_0, THREE | MINUS, 0);
        reals(BY, 3, LEAST_NORMAL + 1, 0x3cc7ffffffffffffL);
        reals(BY, LEAST, TWO, 0);
        reals(BY, 3, TWO, 2);
        reals(BY, LEAST, ONE_AND_A_HALF, LEAST);
        reals(BY, GREATEST, HALF, INFINITY);
        reals(BY, ONE, LEAST, INFINITY);
        reals(BY, LEAST, LEAST, ONE);
        reals(BY, GREATEST, GREATEST, ONE);
        reals(BY, LEAST, GREATEST, 0);
        reals(BY, ONE, GREATEST, 0x0004000000000000L);
    }

    static void promise18TheRestIsOfTheSignOfTheFirst() {
        reals(REST, 0x4016000000000000L, TWO, ONE_AND_A_HALF);
        reals(REST, 0x4016000000000000L | MINUS, TWO, ONE_AND_A_HALF | MINUS);
        reals(REST, 0x4016000000000000L, TWO | MINUS, ONE_AND_A_HALF);
        reals(REST, FOUR, TWO, 0);
        reals(REST, FOUR | MINUS, TWO, MINUS_0);
        reals(REST, MINUS_0, TWO, MINUS_0);
        reals(REST, 0, TWO | MINUS, 0);
        reals(REST, ONE, TWO, ONE);
        reals(REST, THREE, THREE, 0);
        reals(REST, THREE | MINUS, THREE, MINUS_0);
    }

    static void promise18TheRestOnTheEdges() {
        reals(REST, ONE, 0, NAN);
        reals(REST, 0, MINUS_0, NAN);
        reals(REST, INFINITY, TWO, NAN);
        reals(REST, INFINITY, INFINITY, NAN);
        reals(REST, ONE, INFINITY, ONE);
        reals(REST, ONE | MINUS, INFINITY | MINUS, ONE | MINUS);
        reals(REST, MINUS_0, INFINITY, MINUS_0);
        reals(REST, GREATEST, LEAST, 0);
        reals(REST, GREATEST, THREE, TWO);
        reals(REST, LEAST, GREATEST, LEAST);
        reals(REST, 7, 4, 3);
        reals(REST, 0x41f0000000000000L, HALF - 1, 0x3ea0000000000000L);
        reals(REST, 0x41efffffffe00000L, HALF - 1, 0x3e9fffffffe00000L);
    }

    static void promise18NaNOfAnyBitsIsNaN() {
        for (int how = PLUS; how <= LESSER; how++) {
            for (long nan : NANS) {
                reals(how, nan, ONE, NAN);
                reals(how, ONE, nan, NAN);
                reals(how, nan, INFINITY, NAN);
            }
        }
    }

    static void promise18TheGreaterOfTwo() {
        reals(GREATER, ONE, TWO, TWO);
        reals(GREATER, ONE | MINUS, TWO | MINUS, ONE | MINUS);
        reals(GREATER, ONE, TWO | MINUS, ONE);
        reals(GREATER, 0, MINUS_0, 0);
        reals(GREATER, MINUS_0, 0, 0);
        reals(GREATER, MINUS_0, MINUS_0, MINUS_0);
        reals(GREATER, MINUS_0, LEAST | MINUS, MINUS_0);
        reals(GREATER, INFINITY, GREATEST, INFINITY);
        reals(GREATER, INFINITY | MINUS, GREATEST | MINUS, GREATEST | MINUS);
    }

    static void promise18TheLesserOfTwo() {
        reals(LESSER, ONE, TWO, ONE);
        reals(LESSER, ONE | MINUS, TWO | MINUS, TWO | MINUS);
        reals(LESSER, ONE, TWO | MINUS, TWO | MINUS);
        reals(LESSER, 0, MINUS_0, MINUS_0);
        reals(LESSER, MINUS_0, 0, MINUS_0);
        reals(LESSER, 0, 0, 0);
        reals(LESSER, 0, LEAST, 0);
        reals(LESSER, INFINITY, GREATEST, GREATEST);
        reals(LESSER, INFINITY | MINUS, GREATEST | MINUS, INFINITY | MINUS);
    }

    static void promise18TheSignOfTheSecond() {
        for (long a : new long[] {0, LEAST, ONE, GREATEST, INFINITY}) {
            reals(SIGN_OF, a, ONE, a);
            reals(SIGN_OF, a | MINUS, ONE, a);
            reals(SIGN_OF, a, INFINITY | MINUS, a | MINUS);
            reals(SIGN_OF, a | MINUS, MINUS_0, a | MINUS);
            reals(SIGN_OF, a | MINUS, 0, a);
        }
    }

    static void promise18TheSignOfANaNCountsAsPlus() {
        for (long nan : NANS) {
            reals(SIGN_OF, ONE, nan, ONE);
            reals(SIGN_OF, ONE | MINUS, nan, ONE);
            reals(SIGN_OF, MINUS_0, nan, 0);
            reals(SIGN_OF, nan, ONE, NAN);
            reals(SIGN_OF, nan, ONE | MINUS, NAN);
        }
    }

    static void promise18NoHowIsRefused() {
        for (int how : new int[] {-1, 8, MIN, MAX}) {
            throwsNow("real(" + how + ", 1, 1)", x.real(how, ONE, ONE), REFUSED);
        }
    }

    // ---- 19: math

    static void promise19NaNOfAnyBitsIsNaN() {
        for (long nan : NANS) {
            for (int how = 0; how <= 8; how++) {
                maths(how, nan, NAN);
            }
        }
    }

    static void promise19WholeOnesInfinitiesAndZerosStay() {
        for (int how = 0; how <= 2; how++) {
            for (long a : new long[] {0, ONE, THREE, TWO_TO_52, TWO_TO_52 + 1, GREATEST, INFINITY}) {
                mathsOfBothSigns(how, a, a);
            }
        }
    }

    static void promise19Floor() {
        maths(0, LEAST, 0);
        maths(0, LEAST | MINUS, ONE | MINUS);
        maths(0, ONE - 1, 0);
        maths(0, (ONE - 1) | MINUS, ONE | MINUS);
        maths(0, ONE_AND_A_HALF, ONE);
        maths(0, ONE_AND_A_HALF | MINUS, TWO | MINUS);
        maths(0, TWO - 1, ONE);
        maths(0, (TWO + 1) | MINUS, THREE | MINUS);
        maths(0, TWO_TO_52 - 1, TWO_TO_52 - 2);
        maths(0, (TWO_TO_52 - 1) | MINUS, TWO_TO_52 | MINUS);
    }

    static void promise19Ceil() {
        maths(1, LEAST, ONE);
        maths(1, LEAST | MINUS, MINUS_0);
        maths(1, (ONE - 1) | MINUS, MINUS_0);
        maths(1, ONE - 1, ONE);
        maths(1, ONE_AND_A_HALF, TWO);
        maths(1, ONE_AND_A_HALF | MINUS, ONE | MINUS);
        maths(1, TWO + 1, THREE);
        maths(1, (TWO - 1) | MINUS, ONE | MINUS);
        maths(1, TWO_TO_52 - 1, TWO_TO_52);
        maths(1, (TWO_TO_52 - 1) | MINUS, (TWO_TO_52 - 2) | MINUS);
    }

    static void promise19RintIsTheEvenOneInTheMiddle() {
        mathsOfBothSigns(2, HALF, 0);
        mathsOfBothSigns(2, HALF - 1, 0);
        mathsOfBothSigns(2, HALF + 1, ONE);
        mathsOfBothSigns(2, ONE_AND_A_HALF, TWO);
        mathsOfBothSigns(2, ONE_AND_A_HALF - 1, ONE);
        mathsOfBothSigns(2, TWO_AND_A_HALF, TWO);
        mathsOfBothSigns(2, TWO_AND_A_HALF + 1, THREE);
        mathsOfBothSigns(2, LEAST, 0);
        mathsOfBothSigns(2, TWO_TO_52 - 1, TWO_TO_52);
        mathsOfBothSigns(2, TWO_TO_52 - 3, TWO_TO_52 - 4);
    }

    static void promise19Signum() {
        for (long a : new long[] {LEAST, LEAST_NORMAL, HALF, ONE, GREATEST, INFINITY}) {
            mathsOfBothSigns(3, a, ONE);
        }
        mathsOfBothSigns(3, 0, 0);
    }

    static void promise19Abs() {
        for (long a : new long[] {0, LEAST, GREATEST_BELOW_NORMAL, LEAST_NORMAL, ONE, GREATEST, INFINITY}) {
            maths(4, a, a);
            maths(4, a | MINUS, a);
        }
    }

    static void promise19Ulp() {
        long[][] pairs = {
            {0, LEAST}, {LEAST, LEAST}, {GREATEST_BELOW_NORMAL, LEAST}, {LEAST_NORMAL, LEAST}, {2 * LEAST_NORMAL - 1, LEAST},
            {2 * LEAST_NORMAL, 2}, {53 * LEAST_NORMAL, LEAST_NORMAL}, {ONE - 1, 0x3ca0000000000000L},
            {ONE, 0x3cb0000000000000L}, {TWO_TO_52, ONE}, {GREATEST, 0x7ca0000000000000L}, {INFINITY, INFINITY},
        };
        for (long[] pair : pairs) {
            maths(5, pair[0], pair[1]);
            maths(5, pair[0] | MINUS, pair[1]);
        }
    }

    static void promise19NextUp() {
        maths(6, 0, LEAST);
        maths(6, MINUS_0, LEAST);
        maths(6, LEAST | MINUS, MINUS_0);
        maths(6, GREATEST_BELOW_NORMAL, LEAST_NORMAL);
        maths(6, LEAST_NORMAL | MINUS, GREATEST_BELOW_NORMAL | MINUS);
        maths(6, ONE, ONE + 1);
        maths(6, ONE | MINUS, (ONE - 1) | MINUS);
        maths(6, GREATEST, INFINITY);
        maths(6, INFINITY, INFINITY);
        maths(6, INFINITY | MINUS, GREATEST | MINUS);
        maths(6, GREATEST | MINUS, (GREATEST - 1) | MINUS);
    }

    static void promise19ScalbBy3() {
        mathsOfBothSigns(7, 0, 0);
        mathsOfBothSigns(7, ONE, EIGHT);
        mathsOfBothSigns(7, LEAST, 8);
        mathsOfBothSigns(7, GREATEST_BELOW_NORMAL, 0x003ffffffffffffeL);
        mathsOfBothSigns(7, LEAST_NORMAL, 4 * LEAST_NORMAL);
        mathsOfBothSigns(7, 0x7fbfffffffffffffL, GREATEST);
        mathsOfBothSigns(7, 0x7fc0000000000000L, INFINITY);
        mathsOfBothSigns(7, GREATEST, INFINITY);
        mathsOfBothSigns(7, INFINITY, INFINITY);
    }

    static void promise19ScalbByMinus3IsRoundedBelowTheNormalOnes() {
        mathsOfBothSigns(8, 0, 0);
        mathsOfBothSigns(8, EIGHT, ONE);
        mathsOfBothSigns(8, 4 * LEAST_NORMAL, LEAST_NORMAL);
        mathsOfBothSigns(8, 4 * LEAST_NORMAL - 1, LEAST_NORMAL);
        mathsOfBothSigns(8, LEAST_NORMAL, 0x0002000000000000L);
        mathsOfBothSigns(8, 8, LEAST);
        mathsOfBothSigns(8, 4, 0);
        mathsOfBothSigns(8, 5, LEAST);
        mathsOfBothSigns(8, 12, 2);
        mathsOfBothSigns(8, 20, 2);
        mathsOfBothSigns(8, LEAST, 0);
        mathsOfBothSigns(8, GREATEST, 0x7fbfffffffffffffL);
        mathsOfBothSigns(8, INFINITY, INFINITY);
    }

    static void promise19TheExponentIsAWholeNumber() {
        long[][] pairs = {
            {0, -1023}, {LEAST, -1023}, {GREATEST_BELOW_NORMAL, -1023}, {LEAST_NORMAL, -1022}, {HALF, -1}, {ONE - 1, -1},
            {ONE, 0}, {TWO - 1, 0}, {TWO, 1}, {TWO_TO_52, 52}, {GREATEST, 1023}, {INFINITY, 1024},
        };
        for (long[] pair : pairs) {
            maths(9, pair[0], pair[1]);
            maths(9, pair[0] | MINUS, pair[1]);
        }
        for (long nan : NANS) {
            maths(9, nan, 1024);
        }
    }

    static void promise19NoHowIsRefused() {
        for (int how : new int[] {-1, 10, MIN, MAX}) {
            throwsNow("math(" + how + ", 1)", x.math(how, ONE), REFUSED);
            throwsNow("math(" + how + ", NaN)", x.math(how, NAN), REFUSED);
        }
    }

    // ---- 20: narrow

    static void promise20ToAnInt() {
        narrows(0, 0, 0);
        narrows(0, MINUS_0, 0);
        narrows(0, LEAST, 0);
        narrows(0, ONE - 1, 0);
        narrows(0, (ONE - 1) | MINUS, 0);
        narrows(0, TWO_AND_A_HALF, 2);
        narrows(0, TWO_AND_A_HALF | MINUS, -2);
        narrows(0, 0x41dfffffffc00000L, MAX);
        narrows(0, 0x41dfffffffe00000L, MAX);
        narrows(0, 0x41e0000000000000L, MAX);
        narrows(0, 0x41e0000000000000L | MINUS, MIN);
        narrows(0, 0x41dfffffffffffffL | MINUS, MIN + 1);
        narrows(0, 0x41e0000000200000L | MINUS, MIN);
        narrows(0, TWO_TO_52, MAX);
        narrows(0, GREATEST, MAX);
        narrows(0, INFINITY, MAX);
        narrows(0, INFINITY | MINUS, MIN);
    }

    static void promise20ToALong() {
        narrows(1, MINUS_0, 0);
        narrows(1, LEAST | MINUS, 0);
        narrows(1, TWO_AND_A_HALF | MINUS, -2);
        narrows(1, 0x41e0000000000000L, 0x80000000L);
        narrows(1, TWO_TO_52 - 1, 0xfffffffffffffL);
        narrows(1, TWO_TO_52 + 1, 0x10000000000001L);
        narrows(1, 0x43dfffffffffffffL, 0x7ffffffffffffc00L);
        narrows(1, 0x43dfffffffffffffL | MINUS, -0x7ffffffffffffc00L);
        narrows(1, 0x43e0000000000000L, HIGHEST);
        narrows(1, 0x43e0000000000000L | MINUS, LOWEST);
        narrows(1, 0x43e0000000000001L | MINUS, LOWEST);
        narrows(1, GREATEST, HIGHEST);
        narrows(1, INFINITY, HIGHEST);
        narrows(1, INFINITY | MINUS, LOWEST);
    }

    static void promise20ToAFloat() {
        narrows(2, 0, 0);
        narrows(2, MINUS_0, FLOAT_MINUS_0);
        narrows(2, ONE, FLOAT_ONE);
        narrows(2, ONE | MINUS, -0x40800000L);
        narrows(2, 0x3ff0000010000000L, FLOAT_ONE);
        narrows(2, 0x3ff0000010000001L, FLOAT_ONE + 1);
        narrows(2, 0x3ff0000030000000L, FLOAT_ONE + 2);
        narrows(2, INFINITY, FLOAT_INFINITY);
        narrows(2, INFINITY | MINUS, FLOAT_MINUS_INFINITY);
    }

    static void promise20ToAFloatBeyondTheGreatest() {
        narrows(2, 0x47efffffe0000000L, 0x7f7fffffL);
        narrows(2, 0x47efffffefffffffL, 0x7f7fffffL);
        narrows(2, 0x47effffff0000000L, FLOAT_INFINITY);
        narrows(2, 0x47f0000000000000L, FLOAT_INFINITY);
        narrows(2, GREATEST, FLOAT_INFINITY);
        narrows(2, GREATEST | MINUS, FLOAT_MINUS_INFINITY);
    }

    static void promise20ToAFloatBelowTheLeast() {
        narrows(2, 0x3810000000000000L, 0x800000L);
        narrows(2, 0x380fffffe0000000L, 0x800000L);
        narrows(2, 0x380fffffc0000000L, 0x7fffffL);
        narrows(2, 0x36a0000000000000L, 1);
        narrows(2, 0x3690000000000000L, 0);
        narrows(2, 0x3690000000000001L, 1);
        narrows(2, 0x36a8000000000000L, 2);
        narrows(2, 0x3690000000000000L | MINUS, FLOAT_MINUS_0);
        narrows(2, LEAST, 0);
        narrows(2, LEAST | MINUS, FLOAT_MINUS_0);
    }

    static void promise20ByWayOfAnIntToAByte() {
        narrows(3, 0x405fc00000000000L, 127);
        narrows(3, 0x405fffffffffffffL, 127);
        narrows(3, 0x4060000000000000L, -128);
        narrows(3, 0x4060000000000000L | MINUS, -128);
        narrows(3, 0x4060200000000000L | MINUS, 127);
        narrows(3, 0x4070000000000000L, 0);
        narrows(3, (ONE - 1) | MINUS, 0);
        narrows(3, 0x41e0000000000000L, -1);
        narrows(3, 0x41f0000000000000L, -1);
        narrows(3, INFINITY, -1);
        narrows(3, INFINITY | MINUS, 0);
    }

    static void promise20ByWayOfAnIntToAChar() {
        narrows(4, 0x40efffe000000000L, 65535);
        narrows(4, 0x40f0000000000000L, 0);
        narrows(4, ONE | MINUS, 65535);
        narrows(4, (ONE - 1) | MINUS, 0);
        narrows(4, 0x40e0000000000000L, 32768);
        narrows(4, 0x41e0000000000000L, 65535);
        narrows(4, INFINITY, 65535);
        narrows(4, INFINITY | MINUS, 0);
    }

    static void promise20ByWayOfAnIntToAShort() {
        narrows(5, 0x40dfffc000000000L, 32767);
        narrows(5, 0x40e0000000000000L, -32768);
        narrows(5, 0x40e0000000000000L | MINUS, -32768);
        narrows(5, 0x40e0002000000000L | MINUS, 32767);
        narrows(5, 0x40f0000000000000L, 0);
        narrows(5, 0x41e0000000000000L, -1);
        narrows(5, INFINITY, -1);
        narrows(5, INFINITY | MINUS, 0);
    }

    static void promise20NaNOfAnyBits() {
        for (long nan : NANS) {
            for (int how : new int[] {0, 1, 3, 4, 5}) {
                narrows(how, nan, 0);
            }
            narrows(2, nan, FLOAT_NAN);
        }
    }

    static void promise20NoHowIsRefused() {
        for (int how : new int[] {-1, 6, MIN, MAX}) {
            throwsNow("narrow(" + how + ", 1)", x.narrow(how, ONE), REFUSED);
            throwsNow("narrow(" + how + ", NaN)", x.narrow(how, NAN), REFUSED);
        }
    }

    // ---- 21: widen

    static void promise21ALongToADouble() {
        widens(0, 0, 0);
        widens(0, 1, ONE);
        widens(0, -1, ONE | MINUS);
        widens(0, 0x20000000000000L, 0x4340000000000000L);
        widens(0, 0x20000000000001L, 0x4340000000000000L);
        widens(0, 0x20000000000003L, 0x4340000000000002L);
        widens(0, -0x20000000000003L, 0x4340000000000002L | MINUS);
        widens(0, 0x7ffffffffffffc00L, 0x43dfffffffffffffL);
        widens(0, 0x7ffffffffffffdffL, 0x43dfffffffffffffL);
        widens(0, 0x7ffffffffffffe00L, 0x43e0000000000000L);
        widens(0, HIGHEST, 0x43e0000000000000L);
        widens(0, LOWEST, 0x43e0000000000000L | MINUS);
        widens(0, LOWEST + 1, 0x43e0000000000000L | MINUS);
    }

    static void promise21ALongToAFloat() {
        widens(1, 0, 0);
        widens(1, 1, FLOAT_ONE);
        widens(1, -1, -0x40800000L);
        widens(1, 0x1000000L, 0x4b800000L);
        widens(1, 0x1000001L, 0x4b800000L);
        widens(1, 0x1000003L, 0x4b800002L);
        widens(1, 0x7fffffbfffffffffL, 0x5effffffL);
        widens(1, 0x7fffffc000000000L, 0x5f000000L);
        widens(1, HIGHEST, 0x5f000000L);
        widens(1, LOWEST, -0x21000000L);
    }

    static void promise21ALongToAFloatIsRoundedOnce() {
        widens(1, 0x4000004000000000L, 0x5e800000L);
        widens(1, 0x4000004000000001L, 0x5e800001L);
        widens(1, 0x400000bfffffffffL, 0x5e800001L);
        widens(1, 0x400000c000000000L, 0x5e800002L);
    }

    static void promise21AFloatToADouble() {
        widens(2, 0, 0);
        widens(2, 0x80000000L, MINUS_0);
        widens(2, 1, 0x36a0000000000000L);
        widens(2, 0x7fffffL, 0x380fffffc0000000L);
        widens(2, 0x800000L, 0x3810000000000000L);
        widens(2, FLOAT_ONE, ONE);
        widens(2, 0xbf800000L, ONE | MINUS);
        widens(2, 0x7f7fffffL, 0x47efffffe0000000L);
        widens(2, FLOAT_INFINITY, INFINITY);
        widens(2, 0xff800000L, INFINITY | MINUS);
    }

    static void promise21AFloatThatIsNaNOfAnyBits() {
        for (long nan : new long[] {0x7f800001L, 0x7fbfffffL, FLOAT_NAN, 0x7fffffffL, 0xff800001L, 0xffc00000L, -1}) {
            widens(2, nan, NAN);
        }
    }

    static void promise21AnIntToAFloat() {
        widens(3, 0, 0);
        widens(3, 1, FLOAT_ONE);
        widens(3, -1, -0x40800000L);
        widens(3, 0x1000001L, 0x4b800000L);
        widens(3, 0x1000003L, 0x4b800002L);
        widens(3, MAX, 0x4f000000L);
        widens(3, 0x7fffffbfL, 0x4effffffL);
        widens(3, 0x7fffffc0L, 0x4f000000L);
        widens(3, MIN, -0x31000000L);
    }

    static void promise21FloatAndIntAreTheLowest32Bits() {
        widens(2, 0x123456783f800000L, ONE);
        widens(2, 0x100000000L, 0);
        widens(2, LOWEST, 0);
        widens(2, 0x7fc0000000000001L, 0x36a0000000000000L);
        widens(3, 0x100000000L, 0);
        widens(3, 0x7fffffff00000001L, FLOAT_ONE);
        widens(3, 0x00000000ffffffffL, -0x40800000L);
        widens(3, 0x80000000L, -0x31000000L);
        widens(3, LOWEST, 0);
        widens(3, HIGHEST, -0x40800000L);
    }

    static void promise21NoHowIsRefused() {
        for (int how : new int[] {-1, 4, MIN, MAX}) {
            throwsNow("widen(" + how + ", 1)", x.widen(how, 1), REFUSED);
        }
    }

    // ---- 22: compare

    static void promise22Doubles() {
        compares(0, ONE, TWO, "110001");
        compares(0, TWO, ONE, "001101");
        compares(0, ONE, ONE, "010110");
        compares(0, ONE | MINUS, ONE, "110001");
        compares(0, ONE | MINUS, TWO | MINUS, "001101");
        compares(0, ONE, ONE + 1, "110001");
        compares(0, LEAST, 0, "001101");
        compares(0, LEAST | MINUS, 0, "110001");
        compares(0, GREATEST, INFINITY, "110001");
        compares(0, INFINITY, INFINITY, "010110");
        compares(0, INFINITY | MINUS, GREATEST | MINUS, "110001");
        compares(0, INFINITY | MINUS, INFINITY, "110001");
    }

    static void promise22BothZerosOfDoublesAreEqual() {
        compares(0, 0, MINUS_0, "010110");
        compares(0, MINUS_0, 0, "010110");
        compares(0, MINUS_0, MINUS_0, "010110");
        compares(0, MINUS_0, LEAST, "110001");
    }

    static void promise22ADoubleThatIsNaNOfAnyBits() {
        for (long nan : NANS) {
            compares(0, nan, ONE, "000001");
            compares(0, ONE, nan, "000001");
            compares(0, nan, nan, "000001");
            compares(0, nan, INFINITY, "000001");
        }
    }

    static void promise22DoublesAreAll64Bits() {
        compares(0, 0x100000000L, 0x200000000L, "110001");
        compares(0, ONE + 0x100000000L, ONE, "001101");
    }

    static void promise22Floats() {
        compares(6, 0x3f800000L, 0x40000000L, "110001");
        compares(6, 0x40000000L, 0x3f800000L, "001101");
        compares(6, 0x3f800000L, 0x3f800000L, "010110");
        compares(6, 0xbf800000L, 0x3f800000L, "110001");
        compares(6, 0xbf800000L, 0xc0000000L, "001101");
        compares(6, 0x3f800000L, 0x3f800001L, "110001");
        compares(6, 1, 0, "001101");
        compares(6, 0x80000001L, 0, "110001");
        compares(6, 0x7f7fffffL, 0x7f800000L, "110001");
        compares(6, 0x7f800000L, 0x7f800000L, "010110");
        compares(6, 0xff800000L, 0xff7fffffL, "110001");
        compares(6, 0xff800000L, 0x7f800000L, "110001");
    }

    static void promise22BothZerosOfFloatsAreEqual() {
        compares(6, 0, 0x80000000L, "010110");
        compares(6, 0x80000000L, 0, "010110");
        compares(6, 0x80000000L, 1, "110001");
    }

    static void promise22AFloatThatIsNaNOfAnyBits() {
        for (long nan : new long[] {0x7f800001L, FLOAT_NAN, 0x7fffffffL, 0xff800001L, 0xffc00000L, -1}) {
            compares(6, nan, FLOAT_ONE, "000001");
            compares(6, FLOAT_ONE, nan, "000001");
            compares(6, nan, nan, "000001");
            compares(6, nan, FLOAT_INFINITY, "000001");
        }
    }

    static void promise22FloatsAreTheLowest32Bits() {
        compares(6, 0x100000001L, 1, "010110");
        compares(6, 0x100000001L, 2, "110001");
        compares(6, LOWEST, 0, "010110");
        compares(6, NAN, 0, "010110");
        compares(6, 0xffffffff3f800000L, FLOAT_ONE, "010110");
    }

    static void promise22NoHowIsRefused() {
        for (int how : new int[] {-1, 12, MIN, MAX}) {
            throwsNow("compare(" + how + ", 1, 1)", x.compare(how, ONE, ONE), REFUSED);
            throwsNow("compare(" + how + ", NaN, NaN)", x.compare(how, NAN, NAN), REFUSED);
        }
    }
}
