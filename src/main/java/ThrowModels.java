/**
 * A machine of sixteen cells that tells what each of its acts throws.
 *
 * Every act first looks for what it would throw, without changing anything, then does its work.
 * Floating numbers are worked out on their bits, in whole numbers alone.
 */
public final class ThrowModels {
    private static final int CELL_COUNT = 16;
    private static final int LONGEST_ARRAY = 64;

    private static final int NOTHING_THROWN = 0;
    private static final int NULL = 1;
    private static final int INDEX = 2;
    private static final int SIZE = 3;
    private static final int CAST = 4;
    private static final int STORE = 5;
    private static final int DIVISION = 6;
    private static final int OWN = 7;
    private static final int REFUSED = 8;

    private static final int INTS = 0;
    private static final int LONGS = 1;
    private static final int BYTES = 2;
    private static final int CHARS = 3;
    private static final int SHORTS = 4;
    private static final int FLOATS = 5;
    private static final int DOUBLES = 6;
    private static final int ROWS = 7;
    private static final int PLAINS = 8;
    private static final int ROUNDS = 9;
    private static final int PLAIN = 10;
    private static final int ROUND = 11;
    private static final int SQUARE = 12;
    private static final int SIZED = 13;
    private static final int NAMED = 14;
    private static final int SIZED_ARRAY = 15;

    private static final int INNER_BEGAN = 1;
    private static final int INNER_LOADED = 2;
    private static final int MIDDLE_CAUGHT = 4;
    private static final int MIDDLE_ENDED = 8;
    private static final int OUTER_CAUGHT = 16;
    private static final int OUTER_PASSED_ON = 32;
    private static final int OUTER_ENDED = 64;
    private static final int ANSWER_OF_CAUGHT_CAST = -104;
    private static final int ANSWER_OF_CAUGHT_INDEX = -102;

    private static final long LOWEST_INT = -0x80000000L;
    private static final long HIGHEST_INT = 0x7fffffffL;

    private final Thing[] cells;
    private final int[] throwCounts;
    private int latestThrow;
    private int latestTrace;

    public ThrowModels() {
        cells = new Thing[CELL_COUNT];
        throwCounts = new int[REFUSED + 1];
        latestThrow = NOTHING_THROWN;
        latestTrace = 0;
    }

    // ---- things

    public int make(int kind, int cell, int n, int m) {
        if (stops(makeCause(kind, cell, n, m))) {
            return 0;
        }
        cells[cell] = newThing(kind, n, m);
        return 1;
    }

    public int move(int from, int to) {
        boolean known = (from == -1 || isCell(from)) && isCell(to);
        if (stops(known ? NOTHING_THROWN : REFUSED)) {
            return 0;
        }
        cells[to] = from == -1 ? null : cells[from];
        return 1;
    }

    public int twin(int cell, int to) {
        boolean known = isCell(cell) && isCell(to);
        if (stops(known ? castCause(INTS, cells[cell]) : REFUSED)) {
            return 0;
        }
        if (cells[cell] instanceof NumberArray original) {
            NumberArray made = new NumberArray(INTS, original.length);
            System.arraycopy(original.numbers, 0, made.numbers, 0, original.length);
            cells[to] = made;
        }
        return 1;
    }

    public int is(int cell, int type) {
        if (!isCell(cell) || type < INTS || type > SIZED_ARRAY) {
            return -1;
        }
        Thing thing = cells[cell];
        return thing != null && thing.isOf(type) ? 1 : 0;
    }

    public int same(int a, int b) {
        if (!isCell(a) || !isCell(b)) {
            return -1;
        }
        return cells[a] == cells[b] ? 1 : 0;
    }

    public int length(int type, int cell) {
        boolean known = isArrayType(type) && isCell(cell);
        if (stops(known ? castCause(type, cells[cell]) : REFUSED)) {
            return 0;
        }
        Thing thing = cells[cell];
        return thing == null ? 0 : thing.length;
    }

    public long load(int type, int cell, int i) {
        boolean known = isNumberType(type) && isCell(cell);
        if (stops(known ? elementCause(type, cells[cell], i) : REFUSED)) {
            return 0;
        }
        return numberAt(cells[cell], i);
    }

    public int store(int type, int cell, int i, long v) {
        boolean known = isNumberType(type) && isCell(cell);
        if (stops(known ? elementCause(type, cells[cell], i) : REFUSED)) {
            return 0;
        }
        if (cells[cell] instanceof NumberArray array && array.holds(i)) {
            array.numbers[i] = cutToWidth(array.kind, v);
        }
        return 1;
    }

    public int take(int type, int cell, int i, int to) {
        boolean known = isThingArrayType(type) && isCell(cell) && isCell(to);
        if (stops(known ? elementCause(type, cells[cell], i) : REFUSED)) {
            return 0;
        }
        cells[to] = elementAt(cells[cell], i);
        return 1;
    }

    public int put(int type, int cell, int i, int from) {
        boolean known = isThingArrayType(type) && isCell(cell) && isCell(from);
        if (stops(known ? putCause(type, cells[cell], i, cells[from]) : REFUSED)) {
            return 0;
        }
        if (cells[cell] instanceof ThingArray array && array.holds(i)) {
            array.elements[i] = cells[from];
        }
        return 1;
    }

    public int cross(int cell, int i, int j) {
        if (stops(isCell(cell) ? crossCause(cells[cell], i, j) : REFUSED)) {
            return 0;
        }
        return (int) numberAt(elementAt(cells[cell], i), j);
    }

    public int copy(int from, int i, int to, int j, int n) {
        boolean known = isCell(from) && isCell(to);
        int cause = known ? copyCause(cells[from], i, cells[to], j, n) : REFUSED;
        if (cause == NOTHING_THROWN) {
            cause = copyElements(cells[from], i, cells[to], j, n);
        }
        return stops(cause) ? 0 : 1;
    }

    public int field(int type, int cell) {
        boolean known = isOwnType(type) && isCell(cell);
        if (stops(known ? castCause(type, cells[cell]) : REFUSED)) {
            return 0;
        }
        if (cells[cell] instanceof Plain thing) {
            return thing.value;
        }
        return 0;
    }

    public int write(int type, int cell, int v) {
        boolean known = isOwnType(type) && isCell(cell);
        if (stops(known ? castCause(type, cells[cell]) : REFUSED)) {
            return 0;
        }
        if (cells[cell] instanceof Plain thing) {
            thing.value = v;
        }
        return 1;
    }

    public int call(int cell, int which) {
        boolean known = isCell(cell) && which >= 0 && which <= 6;
        if (stops(known ? callCause(cells[cell], which) : REFUSED)) {
            return 0;
        }
        if (cells[cell] instanceof Plain thing) {
            return callAnswer(thing, which);
        }
        return 0;
    }

    // ---- numbers

    public long divide(int how, long a, long b) {
        if (stops(divideCause(how, b))) {
            return 0;
        }
        switch (how) {
            case 0:
                return (int) a / (int) b;
            case 1:
                return (int) a % (int) b;
            case 2:
                return a / b;
            default:
                return a % b;
        }
    }

    public long real(int how, long a, long b) {
        if (stops(how < 0 || how > 7 ? REFUSED : NOTHING_THROWN)) {
            return 0;
        }
        switch (how) {
            case 0:
                return Reals.sum(a, b);
            case 1:
                return Reals.difference(a, b);
            case 2:
                return Reals.product(a, b);
            case 3:
                return Reals.quotient(a, b);
            case 4:
                return Reals.remainder(a, b);
            case 5:
                return Reals.greater(a, b);
            case 6:
                return Reals.lesser(a, b);
            default:
                return Reals.withSignOf(a, b);
        }
    }

    public long math(int how, long a) {
        if (stops(how < 0 || how > 9 ? REFUSED : NOTHING_THROWN)) {
            return 0;
        }
        if (how == 9) {
            return Reals.power(a);
        }
        return Format.DOUBLE.isNaN(a) ? Format.DOUBLE.plainNaN() : Reals.mathOfNumber(how, a);
    }

    public long narrow(int how, long a) {
        if (stops(how < 0 || how > 5 ? REFUSED : NOTHING_THROWN)) {
            return 0;
        }
        switch (how) {
            case 0:
                return Reals.toInt(a);
            case 1:
                return Reals.toLong(a);
            case 2:
                return (int) Reals.converted(Format.DOUBLE, Format.FLOAT, a);
            case 3:
                return (byte) Reals.toInt(a);
            case 4:
                return (char) Reals.toInt(a);
            default:
                return (short) Reals.toInt(a);
        }
    }

    public long widen(int how, long a) {
        if (stops(how < 0 || how > 3 ? REFUSED : NOTHING_THROWN)) {
            return 0;
        }
        switch (how) {
            case 0:
                return Reals.fromLong(Format.DOUBLE, a);
            case 1:
                return (int) Reals.fromLong(Format.FLOAT, a);
            case 2:
                return Reals.converted(Format.FLOAT, Format.DOUBLE, a);
            default:
                return (int) Reals.fromLong(Format.FLOAT, (int) a);
        }
    }

    public int compare(int how, long a, long b) {
        if (stops(how < 0 || how > 11 ? REFUSED : NOTHING_THROWN)) {
            return 0;
        }
        if (how < 6) {
            return Reals.isTrue(how, a, b) ? 1 : 0;
        }
        long first = Reals.converted(Format.FLOAT, Format.DOUBLE, a);
        long second = Reals.converted(Format.FLOAT, Format.DOUBLE, b);
        return Reals.isTrue(how - 6, first, second) ? 1 : 0;
    }

    // ---- frames, what was thrown

    public long pass(int type, int cell, int i) {
        if (!isNumberType(type) || !isCell(cell)) {
            stops(REFUSED);
            return 0;
        }
        int cause = elementCause(type, cells[cell], i);
        latestTrace = traceOf(cause);
        boolean caught = cause == CAST || cause == INDEX;
        if (stops(caught ? NOTHING_THROWN : cause)) {
            return 0;
        }
        if (caught) {
            return cause == CAST ? ANSWER_OF_CAUGHT_CAST : ANSWER_OF_CAUGHT_INDEX;
        }
        return numberAt(cells[cell], i);
    }

    public int trace() {
        return latestTrace;
    }

    public int latest() {
        return latestThrow;
    }

    public int thrown(int what) {
        return what >= NULL && what <= REFUSED ? throwCounts[what] : 0;
    }

    // ---- what there is

    private static boolean isCell(int cell) {
        return cell >= 0 && cell < CELL_COUNT;
    }

    private static boolean isNumberType(int type) {
        return type >= INTS && type <= DOUBLES;
    }

    private static boolean isThingArrayType(int type) {
        return type >= ROWS && type <= ROUNDS || type == SIZED_ARRAY;
    }

    private static boolean isArrayType(int type) {
        return isNumberType(type) || isThingArrayType(type);
    }

    private static boolean isOwnType(int type) {
        return type >= PLAIN && type <= SQUARE;
    }

    // ---- what an act throws: the first cause in the order in which it looks

    /** Ends an act, or its look ahead: keeps what it throws and tells whether it throws. */
    private boolean stops(int cause) {
        latestThrow = cause;
        if (cause < NULL || cause > REFUSED) {
            return false;
        }
        throwCounts[cause]++;
        return true;
    }

    private static int makeCause(int kind, int cell, int n, int m) {
        if (kind < INTS || kind > SQUARE || !isCell(cell)) {
            return REFUSED;
        }
        if (kind >= PLAIN) {
            return NOTHING_THROWN;
        }
        boolean hasRows = kind == ROWS;
        if (n > LONGEST_ARRAY || hasRows && m > LONGEST_ARRAY) {
            return REFUSED;
        }
        return n < 0 || hasRows && m < 0 ? SIZE : NOTHING_THROWN;
    }

    private static boolean passesCast(int type, Thing thing) {
        return thing == null || thing.isOf(type);
    }

    private static int castCause(int type, Thing thing) {
        if (!passesCast(type, thing)) {
            return CAST;
        }
        return thing == null ? NULL : NOTHING_THROWN;
    }

    private static int elementCause(int type, Thing array, int i) {
        int cause = castCause(type, array);
        if (cause != NOTHING_THROWN) {
            return cause;
        }
        return array != null && array.holds(i) ? NOTHING_THROWN : INDEX;
    }

    private static int putCause(int type, Thing array, int i, Thing element) {
        if (!passesCast(type, array) || !passesCast(elementTypeOfType(type), element)) {
            return CAST;
        }
        if (array == null) {
            return NULL;
        }
        if (!array.holds(i)) {
            return INDEX;
        }
        return passesCast(elementTypeOfKind(array.kind), element) ? NOTHING_THROWN : STORE;
    }

    private static int crossCause(Thing array, int i, int j) {
        int cause = elementCause(ROWS, array, i);
        return cause != NOTHING_THROWN ? cause : elementCause(INTS, elementAt(array, i), j);
    }

    private static int copyCause(Thing from, int i, Thing to, int j, int n) {
        if (from == null || to == null) {
            return NULL;
        }
        boolean areThingArrays = isThingArrayType(from.kind) && isThingArrayType(to.kind);
        boolean areAlike = isArrayType(from.kind) && from.kind == to.kind;
        if (!areThingArrays && !areAlike) {
            return STORE;
        }
        // As longs, so that a sum beyond an int does not wrap back into the array.
        boolean isInside = i >= 0 && j >= 0 && n >= 0
            && (long) i + n <= from.length && (long) j + n <= to.length;
        return isInside ? NOTHING_THROWN : INDEX;
    }

    private static int callCause(Thing thing, int which) {
        int cause = castCause(SIZED, thing);
        if (cause == NOTHING_THROWN && thing instanceof Plain own) {
            if (which == 5 && own.size() < 0) {
                return OWN;
            }
            if (which == 6 && own.value == 0) {
                return DIVISION;
            }
        }
        return cause;
    }

    private static int divideCause(int how, long b) {
        if (how < 0 || how > 3) {
            return REFUSED;
        }
        boolean isByZero = how < 2 ? (int) b == 0 : b == 0;
        return isByZero ? DIVISION : NOTHING_THROWN;
    }

    private static int traceOf(int cause) {
        switch (cause) {
            case NOTHING_THROWN:
                return INNER_BEGAN + INNER_LOADED + MIDDLE_ENDED + OUTER_ENDED;
            case CAST:
                return INNER_BEGAN + MIDDLE_CAUGHT + MIDDLE_ENDED + OUTER_ENDED;
            case INDEX:
                return INNER_BEGAN + MIDDLE_ENDED + OUTER_CAUGHT;
            default:
                return INNER_BEGAN + MIDDLE_ENDED + OUTER_PASSED_ON;
        }
    }

    // ---- what an act does

    private static Thing newThing(int kind, int n, int m) {
        switch (kind) {
            case PLAIN:
                return new Plain(PLAIN, n);
            case ROUND:
                return new Round(ROUND, n);
            case SQUARE:
                return new Square(n);
            case PLAINS:
            case ROUNDS:
                return new ThingArray(kind, n);
            case ROWS:
                return newRows(n, m);
            default:
                return new NumberArray(kind, n);
        }
    }

    private static ThingArray newRows(int n, int m) {
        ThingArray rows = new ThingArray(ROWS, n);
        for (int i = 0; i < rows.length; i++) {
            rows.elements[i] = new NumberArray(INTS, m);
        }
        return rows;
    }

    private static long numberAt(Thing thing, int i) {
        if (thing instanceof NumberArray array && array.holds(i)) {
            return array.numbers[i];
        }
        return 0;
    }

    private static Thing elementAt(Thing thing, int i) {
        if (thing instanceof ThingArray array && array.holds(i)) {
            return array.elements[i];
        }
        return null;
    }

    private static int elementTypeOfType(int type) {
        return type == SIZED_ARRAY ? SIZED : elementTypeOfKind(type);
    }

    private static int elementTypeOfKind(int kind) {
        switch (kind) {
            case ROWS:
                return INTS;
            case PLAINS:
                return PLAIN;
            default:
                return ROUND;
        }
    }

    private static long cutToWidth(int kind, long v) {
        switch (kind) {
            case LONGS:
                return v;
            case BYTES:
                return (byte) v;
            case CHARS:
                return (char) v;
            case SHORTS:
                return (short) v;
            case FLOATS:
                return Format.FLOAT.isNaN(v) ? Format.FLOAT.plainNaN() : (int) v;
            case DOUBLES:
                return Format.DOUBLE.isNaN(v) ? Format.DOUBLE.plainNaN() : v;
            default:
                return (int) v;
        }
    }

    /** Copies within bounds that are looked at already; what it answers is what it throws. */
    private static int copyElements(Thing from, int i, Thing to, int j, int n) {
        if (from instanceof NumberArray source && to instanceof NumberArray target) {
            System.arraycopy(source.numbers, i, target.numbers, j, n);
        }
        if (from instanceof ThingArray source && to instanceof ThingArray target) {
            if (source != target) {
                return copyThings(source, i, target, j, n);
            }
            shiftThings(target, i, j, n);
        }
        return NOTHING_THROWN;
    }

    /** Begins at the end where no element is overwritten before it is read. */
    private static void shiftThings(ThingArray array, int i, int j, int n) {
        for (int k = 0; k < n; k++) {
            int at = i < j ? n - 1 - k : k;
            array.elements[j + at] = array.elements[i + at];
        }
    }

    private static int copyThings(ThingArray source, int i, ThingArray target, int j, int n) {
        int type = elementTypeOfKind(target.kind);
        for (int k = 0; k < n; k++) {
            Thing element = source.elements[i + k];
            if (!passesCast(type, element)) {
                return STORE;
            }
            target.elements[j + k] = element;
        }
        return NOTHING_THROWN;
    }

    private static int callAnswer(Plain thing, int which) {
        switch (which) {
            case 1:
                return thing.twice();
            case 2:
                return thing.mark();
            case 3:
                return thing.step();
            case 4:
                return thing.size() % 5;
            case 6:
                return thing.value == 0 ? 0 : 1000 / thing.value;
            default:
                return thing.size();
        }
    }

    // ---- what cells hold

    private abstract static class Thing {
        final int kind;
        final int length;

        Thing(int kind, int length) {
            this.kind = kind;
            this.length = length;
        }

        boolean isOf(int type) {
            switch (type) {
                case PLAINS:
                case SIZED_ARRAY:
                    return kind == PLAINS || kind == ROUNDS;
                case PLAIN:
                case SIZED:
                    return kind >= PLAIN;
                case ROUND:
                case NAMED:
                    return kind >= ROUND;
                default:
                    return kind == type;
            }
        }

        boolean holds(int i) {
            return i >= 0 && i < length;
        }
    }

    /** An array of numbers of any kind, kept as what a load answers. */
    private static final class NumberArray extends Thing {
        final long[] numbers;

        NumberArray(int kind, int length) {
            super(kind, length);
            numbers = new long[length];
        }
    }

    private static final class ThingArray extends Thing {
        final Thing[] elements;

        ThingArray(int kind, int length) {
            super(kind, length);
            elements = new Thing[length];
        }
    }

    private static class Plain extends Thing {
        int value;

        Plain(int kind, int value) {
            super(kind, 0);
            this.value = value;
        }

        int size() {
            return value;
        }

        int twice() {
            return 2 * size();
        }

        int mark() {
            return 7 * value + 1;
        }

        int step() {
            return 1000 + value;
        }
    }

    private static class Round extends Plain {
        Round(int kind, int value) {
            super(kind, value);
        }

        int size() {
            return 2 * value;
        }

        int twice() {
            return 3 * size() + 100;
        }

        int step() {
            return super.step() + 20;
        }
    }

    private static final class Square extends Round {
        Square(int value) {
            super(SQUARE, value);
        }

        int size() {
            return 2 * value + 1;
        }

        int mark() {
            return 10 * super.mark();
        }

        int step() {
            return super.step() + 3;
        }
    }

    // ---- floating numbers by their bits

    /** The widths of floating numbers. Of a float's bits only the lowest 32 are looked at. */
    private enum Format {
        DOUBLE(52, -1074, 0x7ff0000000000000L, 0x8000000000000000L),
        FLOAT(23, -149, 0x7f800000L, 0x80000000L);

        final int fractionBits;
        final int lowestExponent;
        final long infinity;
        final long signBit;

        Format(int fractionBits, int lowestExponent, long infinity, long signBit) {
            this.fractionBits = fractionBits;
            this.lowestExponent = lowestExponent;
            this.infinity = infinity;
            this.signBit = signBit;
        }

        long plainNaN() {
            return infinity + (1L << (fractionBits - 1));
        }

        long magnitude(long bits) {
            return bits & (signBit - 1);
        }

        boolean isNegative(long bits) {
            return (bits & signBit) != 0;
        }

        boolean isNaN(long bits) {
            return magnitude(bits) > infinity;
        }

        boolean isInfinite(long bits) {
            return magnitude(bits) == infinity;
        }

        boolean isZero(long bits) {
            return magnitude(bits) == 0;
        }

        /** By how many places a number below the normal ones lacks the leading bit. */
        private int missingPlaces(long bits) {
            long magnitude = magnitude(bits);
            return magnitude < 1L << fractionBits ? fractionBits - highestBit(magnitude) : 0;
        }

        /** A finite number is significand * 2 ^ exponent; but for 0, the leading bit is set. */
        long significand(long bits) {
            long leadingBit = 1L << fractionBits;
            long magnitude = magnitude(bits);
            if (magnitude < leadingBit) {
                return magnitude << missingPlaces(bits);
            }
            return magnitude & (leadingBit - 1) | leadingBit;
        }

        int exponent(long bits) {
            int rank = (int) (magnitude(bits) >>> fractionBits);
            return lowestExponent + Math.max(rank - 1, 0) - missingPlaces(bits);
        }

        /** The bits of significand * 2 ^ exponent, rounded; the significand is not below 0. */
        long pack(boolean isNegative, int exponent, long significand) {
            long sign = isNegative ? signBit : 0;
            if (significand == 0) {
                return sign;
            }
            int place = Math.max(exponent + highestBit(significand) - fractionBits, lowestExponent);
            long rank = place - lowestExponent;
            if (rank >= (infinity >>> fractionBits) - 1) {
                return sign | infinity;
            }
            // The leading bit, and a carry of the rounding, count up the exponent by themselves.
            return sign | ((rank << fractionBits) + rounded(significand, place - exponent));
        }

        /** significand / 2 ^ places, to the nearest whole number, the even one in the middle. */
        static long rounded(long significand, int places) {
            if (places <= 0) {
                return significand << -places;
            }
            if (places > 63) {
                return 0;
            }
            long kept = significand >>> places;
            long rest = significand - (kept << places);
            long half = 1L << (places - 1);
            boolean goesUp = rest > half || rest == half && (kept & 1) == 1;
            return goesUp ? kept + 1 : kept;
        }

        private static int highestBit(long value) {
            int place = 0;
            for (int step = 32; step > 0; step /= 2) {
                if (value >>> (place + step) != 0) {
                    place += step;
                }
            }
            return place;
        }
    }

    /** What the language does with doubles; they come and go as their bits. */
    private static final class Reals {
        private static final long SIGN = 0x8000000000000000L;
        private static final long ONE = 0x3ff0000000000000L;
        private static final int BIAS = 1023;
        /** How far a sum's parts are moved up, so that what is lost of them is below the rounding. */
        private static final int GUARD_PLACES = 9;
        /** The highest number of places by which 53 bits move up and stay a long above 0. */
        private static final int STRIDE = 10;
        private static final int LOW_HALF = 27;
        private static final long LOW_HALF_MASK = (1L << LOW_HALF) - 1;

        static long sum(long a, long b) {
            if (Format.DOUBLE.isNaN(a) || Format.DOUBLE.isNaN(b)) {
                return Format.DOUBLE.plainNaN();
            }
            if (Format.DOUBLE.isInfinite(a)) {
                return Format.DOUBLE.isInfinite(b) && a != b ? Format.DOUBLE.plainNaN() : a;
            }
            boolean firstIsLarger = Format.DOUBLE.magnitude(a) >= Format.DOUBLE.magnitude(b);
            long larger = firstIsLarger ? a : b;
            long smaller = firstIsLarger ? b : a;
            if (Format.DOUBLE.isZero(larger)) {
                return a & b;
            }
            if (Format.DOUBLE.isInfinite(larger) || Format.DOUBLE.isZero(smaller)) {
                return larger;
            }
            return sumOfFinite(larger, smaller);
        }

        private static long sumOfFinite(long larger, long smaller) {
            int exponent = Format.DOUBLE.exponent(larger);
            int gap = exponent - Format.DOUBLE.exponent(smaller);
            long most = Format.DOUBLE.significand(larger) << GUARD_PLACES;
            long rest = movedDown(Format.DOUBLE.significand(smaller) << GUARD_PLACES, gap);
            boolean hasOneSign = larger < 0 == smaller < 0;
            long total = hasOneSign ? most + rest : most - rest;
            return Format.DOUBLE.pack(larger < 0 && total != 0, exponent - GUARD_PLACES, total);
        }

        /** value / 2 ^ places, with the lowest bit set if anything is lost. */
        private static long movedDown(long value, int places) {
            if (places > 62) {
                return 1;
            }
            long kept = value >>> places;
            return kept << places == value ? kept : kept | 1;
        }

        static long difference(long a, long b) {
            return sum(a, b ^ SIGN);
        }

        static long product(long a, long b) {
            if (Format.DOUBLE.isNaN(a) || Format.DOUBLE.isNaN(b)) {
                return Format.DOUBLE.plainNaN();
            }
            long sign = (a ^ b) & SIGN;
            boolean hasZero = Format.DOUBLE.isZero(a) || Format.DOUBLE.isZero(b);
            if (Format.DOUBLE.isInfinite(a) || Format.DOUBLE.isInfinite(b)) {
                return hasZero ? Format.DOUBLE.plainNaN() : sign | Format.DOUBLE.infinity;
            }
            return hasZero ? sign : productOfFinite(a, b);
        }

        /** Multiplies in halves: of the 106 places the lowest 44 are only told as lost or not. */
        private static long productOfFinite(long a, long b) {
            long first = Format.DOUBLE.significand(a);
            long second = Format.DOUBLE.significand(b);
            long firstHigh = first >>> LOW_HALF;
            long firstLow = first & LOW_HALF_MASK;
            long secondHigh = second >>> LOW_HALF;
            long secondLow = second & LOW_HALF_MASK;
            long middle = firstHigh * secondLow + firstLow * secondHigh;
            long high = firstHigh * secondHigh + (middle >>> LOW_HALF);
            long low = firstLow * secondLow + ((middle & LOW_HALF_MASK) << LOW_HALF);
            long total = (high << STRIDE) + movedDown(low, 2 * LOW_HALF - STRIDE);
            int exponent = Format.DOUBLE.exponent(a) + Format.DOUBLE.exponent(b);
            return Format.DOUBLE.pack(a < 0 != b < 0, exponent + 2 * LOW_HALF - STRIDE, total);
        }

        static long quotient(long a, long b) {
            if (Format.DOUBLE.isNaN(a) || Format.DOUBLE.isNaN(b)) {
                return Format.DOUBLE.plainNaN();
            }
            long sign = (a ^ b) & SIGN;
            if (Format.DOUBLE.isInfinite(a)) {
                return Format.DOUBLE.isInfinite(b) ? Format.DOUBLE.plainNaN() : sign | Format.DOUBLE.infinity;
            }
            if (Format.DOUBLE.isZero(b)) {
                return Format.DOUBLE.isZero(a) ? Format.DOUBLE.plainNaN() : sign | Format.DOUBLE.infinity;
            }
            return Format.DOUBLE.isZero(a) || Format.DOUBLE.isInfinite(b) ? sign : quotientOfFinite(a, b);
        }

        private static long quotientOfFinite(long a, long b) {
            long divisor = Format.DOUBLE.significand(b);
            if (divisor == 0) {
                return Format.DOUBLE.plainNaN();
            }
            long rest = Format.DOUBLE.significand(a);
            long total = rest / divisor;
            rest %= divisor;
            int places = 0;
            for (int round = 0; round < 6; round++) {
                rest <<= STRIDE;
                total = (total << STRIDE) + rest / divisor;
                rest %= divisor;
                places += STRIDE;
            }
            int exponent = Format.DOUBLE.exponent(a) - Format.DOUBLE.exponent(b) - places;
            return Format.DOUBLE.pack(a < 0 != b < 0, exponent, rest == 0 ? total : total | 1);
        }

        static long remainder(long a, long b) {
            boolean hasNaN = Format.DOUBLE.isNaN(a) || Format.DOUBLE.isNaN(b);
            if (hasNaN || Format.DOUBLE.isInfinite(a) || Format.DOUBLE.isZero(b)) {
                return Format.DOUBLE.plainNaN();
            }
            boolean isBelow = Format.DOUBLE.magnitude(a) < Format.DOUBLE.magnitude(b);
            return isBelow ? a : remainderOfFinite(a, b);
        }

        private static long remainderOfFinite(long a, long b) {
            long divisor = Format.DOUBLE.significand(b);
            if (divisor == 0) {
                return Format.DOUBLE.plainNaN();
            }
            int exponent = Format.DOUBLE.exponent(b);
            long rest = Format.DOUBLE.significand(a) % divisor;
            for (int left = Format.DOUBLE.exponent(a) - exponent; left > 0; left -= STRIDE) {
                rest = (rest << Math.min(left, STRIDE)) % divisor;
            }
            return Format.DOUBLE.pack(a < 0, exponent, rest);
        }

        static long greater(long a, long b) {
            if (Format.DOUBLE.isNaN(a) || Format.DOUBLE.isNaN(b)) {
                return Format.DOUBLE.plainNaN();
            }
            return rankWithSignOfZero(a) >= rankWithSignOfZero(b) ? a : b;
        }

        static long lesser(long a, long b) {
            if (Format.DOUBLE.isNaN(a) || Format.DOUBLE.isNaN(b)) {
                return Format.DOUBLE.plainNaN();
            }
            return rankWithSignOfZero(a) <= rankWithSignOfZero(b) ? a : b;
        }

        /** A whole number that orders the doubles, - 0 below 0. */
        private static long rankWithSignOfZero(long bits) {
            return bits < 0 ? ~Format.DOUBLE.magnitude(bits) : bits;
        }

        /** A whole number that orders the doubles, - 0 like 0. */
        private static long rank(long bits) {
            return bits < 0 ? -Format.DOUBLE.magnitude(bits) : bits;
        }

        static long withSignOf(long a, long b) {
            if (Format.DOUBLE.isNaN(a)) {
                return Format.DOUBLE.plainNaN();
            }
            long sign = Format.DOUBLE.isNaN(b) ? 0 : b & SIGN;
            return sign | Format.DOUBLE.magnitude(a);
        }

        /** Whether a comparison holds: 0 to 5 are < <= > >= == !=. */
        static boolean isTrue(int how, long a, long b) {
            if (Format.DOUBLE.isNaN(a) || Format.DOUBLE.isNaN(b)) {
                return how == 5;
            }
            long first = rank(a);
            long second = rank(b);
            switch (how) {
                case 0:
                    return first < second;
                case 1:
                    return first <= second;
                case 2:
                    return first > second;
                case 3:
                    return first >= second;
                case 4:
                    return first == second;
                default:
                    return first != second;
            }
        }

        static long mathOfNumber(int how, long a) {
            switch (how) {
                case 0:
                    return floor(a);
                case 1:
                    return floor(a ^ SIGN) ^ SIGN;
                case 2:
                    return nearestWhole(a);
                case 3:
                    return Format.DOUBLE.isZero(a) ? a : a & SIGN | ONE;
                case 4:
                    return Format.DOUBLE.magnitude(a);
                case 5:
                    return distanceToNext(a);
                case 6:
                    return nextUp(a);
                case 7:
                    return scaled(a, 3);
                default:
                    return scaled(a, -3);
            }
        }

        /** The exponent as the language tells it: 1024 of what is not finite, - 1023 below the normal ones. */
        static int power(long bits) {
            return (int) (Format.DOUBLE.magnitude(bits) >>> Format.DOUBLE.fractionBits) - BIAS;
        }

        private static long floor(long a) {
            int power = power(a);
            if (power >= Format.DOUBLE.fractionBits || Format.DOUBLE.isZero(a)) {
                return a;
            }
            if (power < 0) {
                return a < 0 ? SIGN | ONE : 0;
            }
            long partBelowOne = ((1L << Format.DOUBLE.fractionBits) - 1) >>> power;
            long raised = a < 0 ? a + partBelowOne : a;
            return raised & ~partBelowOne;
        }

        private static long nearestWhole(long a) {
            if (power(a) >= Format.DOUBLE.fractionBits) {
                return a;
            }
            long whole = Format.rounded(Format.DOUBLE.significand(a), -Format.DOUBLE.exponent(a));
            return Format.DOUBLE.pack(a < 0, 0, whole);
        }

        private static long distanceToNext(long a) {
            if (Format.DOUBLE.isInfinite(a)) {
                return Format.DOUBLE.infinity;
            }
            int exponent = Math.max(Format.DOUBLE.exponent(a), Format.DOUBLE.lowestExponent);
            return Format.DOUBLE.pack(false, exponent, 1);
        }

        private static long nextUp(long a) {
            if (Format.DOUBLE.isZero(a)) {
                return 1;
            }
            if (a < 0) {
                return a - 1;
            }
            return Format.DOUBLE.isInfinite(a) ? a : a + 1;
        }

        private static long scaled(long a, int places) {
            if (Format.DOUBLE.isInfinite(a)) {
                return a;
            }
            return Format.DOUBLE.pack(a < 0, Format.DOUBLE.exponent(a) + places, Format.DOUBLE.significand(a));
        }

        static long converted(Format from, Format to, long bits) {
            if (from.isNaN(bits)) {
                return to.plainNaN();
            }
            boolean isNegative = from.isNegative(bits);
            if (from.isInfinite(bits)) {
                return isNegative ? to.signBit | to.infinity : to.infinity;
            }
            return to.pack(isNegative, from.exponent(bits), from.significand(bits));
        }

        static long fromLong(Format to, long value) {
            // The lowest long has no counterpart above 0: it is told as - 2 ^ 62 * 2.
            if (value == SIGN) {
                return to.pack(true, 1, 1L << 62);
            }
            return to.pack(value < 0, 0, Math.abs(value));
        }

        static long toLong(long a) {
            if (Format.DOUBLE.isNaN(a)) {
                return 0;
            }
            if (power(a) >= 63) {
                return a < 0 ? SIGN : ~SIGN;
            }
            int exponent = Format.DOUBLE.exponent(a);
            long significand = Format.DOUBLE.significand(a);
            long whole = exponent >= 0 ? significand << exponent : significand >>> Math.min(-exponent, 63);
            return a < 0 ? -whole : whole;
        }

        static int toInt(long a) {
            return (int) Math.max(Math.min(toLong(a), HIGHEST_INT), LOWEST_INT);
        }
    }
}
