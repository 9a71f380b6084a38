/** Promises 1 to 16: cells, arrays, copies and calls, each with its edges and its refused numbers. */
public final class ThingsTest {
    private static final int NULL = 1;
    private static final int INDEX = 2;
    private static final int SIZE = 3;
    private static final int CAST = 4;
    private static final int STORE = 5;
    private static final int DIVISION = 6;
    private static final int OWN = 7;
    private static final int REFUSED = 8;
    private static final int MIN = Integer.MIN_VALUE;
    private static final int MAX = Integer.MAX_VALUE;
    private static final int[] BEYOND_CELLS = {-1, 16, MIN, MAX};
    /** In full(), the cell k holds a thing of the kind k; this one and those behind it hold nothing. */
    private static final int EMPTY = 13;

    private static ThrowModels x;

    public static void main(String[] args) {
        promise1New();
        promise2Make();
        promise2MakeRefused();
        promise3Move();
        promise4Twin();
        promise5Is();
        promise6Same();
        promise7Length();
        promise8Load();
        promise9Store();
        promise9StoreCuts();
        promise10Take();
        promise11Put();
        promise11PutOrder();
        promise12Cross();
        promise13CopyNumbers();
        promise13CopyOrder();
        promise13CopyThings();
        promise13CopyStopsInTheMidst();
        promise14Field();
        promise15Write();
        promise16Call();
        promise16CallWraps();
        Check.end();
    }

    /** A machine whose cell k holds a thing of the kind k: arrays of 4 (rows of 3), own things of 10. */
    private static ThrowModels full() {
        ThrowModels made = new ThrowModels();
        for (int kind = 0; kind <= 12; kind++) {
            made.make(kind, kind, kind >= 10 ? 10 : 4, 3);
        }
        return made;
    }

    private static void works(String call, long got, long want) {
        Check.works(x, call, got, want);
    }

    private static void throwsNow(String call, long got, int cause) {
        Check.throwsNow(x, call, got, cause);
    }

    private static void promise1New() {
        x = new ThrowModels();
        for (int cell = 0; cell < 16; cell++) {
            Check.due("same(cell, 0) when new", x.same(cell, 0), 1);
            for (int type = 0; type < 16; type++) {
                Check.due("is(cell, type) when new", x.is(cell, type), 0);
            }
        }
        Check.due("latest() when new", x.latest(), 0);
        Check.due("trace() when new", x.trace(), 0);
        for (int what = 0; what <= 9; what++) {
            Check.due("thrown(what) when new", x.thrown(what), 0);
        }
        throwsNow("length(0, 15) when new", x.length(0, 15), NULL);
    }

    private static void promise2Make() {
        x = new ThrowModels();
        for (int kind = 0; kind <= 9; kind++) {
            works("make(kind, 3, 64, 64)", x.make(kind, 3, 64, 64), 1);
            works("length(kind, 3)", x.length(kind, 3), 64);
            works("make(kind, 15, 0, 0)", x.make(kind, 15, 0, 0), 1);
            works("length(kind, 15)", x.length(kind, 15), 0);
            throwsNow("make(kind, 3, -1, 5)", x.make(kind, 3, -1, 5), SIZE);
            throwsNow("make(kind, 3, MIN, 5)", x.make(kind, 3, MIN, 5), SIZE);
            works("length(kind, 3), as before", x.length(kind, 3), 64);
        }
        for (int kind = 0; kind <= 6; kind++) {
            works("make(kind, 3, 2, -1): m does not count", x.make(kind, 3, 2, -1), 1);
            works("make(kind, 3, 2, 65): m does not count", x.make(kind, 3, 2, 65), 1);
            works("load(kind, 3, 0)", x.load(kind, 3, 0), 0);
            works("load(kind, 3, 1)", x.load(kind, 3, 1), 0);
        }
        promise2MakeRows();
        for (int kind = 10; kind <= 12; kind++) {
            for (int n : new int[] {0, -5, 65, MIN, MAX}) {
                works("make(own kind, 4, n, -1)", x.make(kind, 4, n, -1), 1);
                works("field(kind, 4)", x.field(kind, 4), n);
            }
        }
    }

    private static void promise2MakeRows() {
        works("make(7, 7, 3, 2)", x.make(7, 7, 3, 2), 1);
        for (int i = 0; i < 3; i++) {
            works("cross(7, i, 1)", x.cross(7, i, 1), 0);
        }
        throwsNow("cross(7, 2, 2)", x.cross(7, 2, 2), INDEX);
        x.take(7, 7, 0, 0);
        x.take(7, 7, 1, 1);
        Check.due("two rows are not the same", x.same(0, 1), 0);
        works("make(7, 8, 2, 0)", x.make(7, 8, 2, 0), 1);
        throwsNow("cross(8, 1, 0)", x.cross(8, 1, 0), INDEX);
        throwsNow("make(7, 7, 2, -1)", x.make(7, 7, 2, -1), SIZE);
        throwsNow("make(7, 7, 0, -1)", x.make(7, 7, 0, -1), SIZE);
        throwsNow("make(7, 7, -1, 64)", x.make(7, 7, -1, 64), SIZE);
        works("make(8, 8, 2, 0)", x.make(8, 8, 2, 0), 1);
        works("take(8, 8, 1, 9)", x.take(8, 8, 1, 9), 1);
        Check.due("an element of a new array of plains is nothing", x.same(9, 14), 1);
        works("length(7, 7), as before", x.length(7, 7), 3);
    }

    private static void promise2MakeRefused() {
        x = full();
        for (int kind : new int[] {-1, 13, MIN, MAX}) {
            throwsNow("make(no kind)", x.make(kind, 0, 1, 1), REFUSED);
        }
        for (int cell : BEYOND_CELLS) {
            throwsNow("make(0, no cell)", x.make(0, cell, -1, 1), REFUSED);
        }
        for (int kind = 0; kind <= 9; kind++) {
            throwsNow("make(kind, 1, 65, 0)", x.make(kind, 1, 65, 0), REFUSED);
            throwsNow("make(kind, 1, MAX, 0)", x.make(kind, 1, MAX, 0), REFUSED);
        }
        throwsNow("make(7, 1, 1, 65)", x.make(7, 1, 1, 65), REFUSED);
        throwsNow("make(7, 1, -1, 65): refused ahead of its size", x.make(7, 1, -1, 65), REFUSED);
        throwsNow("make(7, 1, 65, -1): refused ahead of its size", x.make(7, 1, 65, -1), REFUSED);
        Check.due("cell 1 as before", x.is(1, 1), 1);
    }

    private static void promise3Move() {
        x = full();
        works("move(3, 15)", x.move(3, 15), 1);
        Check.due("same(3, 15)", x.same(3, 15), 1);
        x.store(3, 15, 0, 9);
        works("load of the shared thing", x.load(3, 3, 0), 9);
        works("move(-1, 15)", x.move(-1, 15), 1);
        throwsNow("length(3, 15)", x.length(3, 15), NULL);
        works("move(14, 3): nothing moves too", x.move(14, 3), 1);
        throwsNow("length(3, 3)", x.length(3, 3), NULL);
        works("move(5, 5)", x.move(5, 5), 1);
        works("length(5, 5)", x.length(5, 5), 4);
        throwsNow("move(-2, 5)", x.move(-2, 5), REFUSED);
        throwsNow("move(16, 5)", x.move(16, 5), REFUSED);
        for (int cell : BEYOND_CELLS) {
            throwsNow("move(5, no cell)", x.move(5, cell), REFUSED);
            throwsNow("move(-1, no cell)", x.move(-1, cell), REFUSED);
        }
        works("length(5, 5), as before", x.length(5, 5), 4);
    }

    private static void promise4Twin() {
        x = full();
        x.store(0, 0, 3, 77);
        works("twin(0, 15)", x.twin(0, 15), 1);
        Check.due("a twin is another one", x.same(0, 15), 0);
        works("load from the twin", x.load(0, 15, 3), 77);
        x.store(0, 15, 3, 78);
        works("the first stays", x.load(0, 0, 3), 77);
        x.move(0, 14);
        works("twin(0, 0)", x.twin(0, 0), 1);
        Check.due("a twin in its own cell", x.same(0, 14), 0);
        works("length of a twin", x.length(0, 0), 4);
        for (int kind = 1; kind <= 12; kind++) {
            throwsNow("twin(kind, 0)", x.twin(kind, 0), CAST);
        }
        throwsNow("twin(nothing, 0)", x.twin(EMPTY, 0), NULL);
        works("cell 0 as before", x.load(0, 0, 3), 77);
        for (int cell : BEYOND_CELLS) {
            throwsNow("twin(no cell, 0)", x.twin(cell, 0), REFUSED);
            throwsNow("twin(0, no cell)", x.twin(0, cell), REFUSED);
            throwsNow("twin(1, no cell): refused ahead of the cast", x.twin(1, cell), REFUSED);
        }
    }

    private static void promise5Is() {
        x = full();
        String[] kindsOfType = {
            "0", "1", "2", "3", "4", "5", "6", "7", "8 9", "9", "10 11 12", "11 12", "12", "10 11 12", "11 12", "8 9",
        };
        for (int type = 0; type < 16; type++) {
            String kinds = " " + kindsOfType[type] + " ";
            for (int kind = 0; kind <= 12; kind++) {
                Check.due("is(" + kind + ", " + type + ")", x.is(kind, type), kinds.contains(" " + kind + " ") ? 1 : 0);
            }
            Check.due("is(nothing, type)", x.is(EMPTY, type), 0);
        }
        x.length(0, 1);
        for (int beyond : BEYOND_CELLS) {
            Check.due("is(no cell, 0)", x.is(beyond, 0), -1);
            Check.due("is(0, no type)", x.is(0, beyond), -1);
        }
        Check.due("is() is no act", x.latest(), CAST);
        Check.due("is() is not counted", x.thrown(REFUSED), 0);
    }

    private static void promise6Same() {
        x = full();
        for (int a = 0; a < 16; a++) {
            for (int b = 0; b < 16; b++) {
                Check.due("same(" + a + ", " + b + ")", x.same(a, b), a == b || a >= EMPTY && b >= EMPTY ? 1 : 0);
            }
        }
        x.make(10, 14, 10, 0);
        Check.due("things that are alike are not the same", x.same(10, 14), 0);
        x.length(0, 1);
        for (int beyond : BEYOND_CELLS) {
            Check.due("same(no cell, 0)", x.same(beyond, 0), -1);
            Check.due("same(0, no cell)", x.same(0, beyond), -1);
        }
        Check.due("same() is no act", x.latest(), CAST);
        Check.due("same() is not counted", x.thrown(REFUSED), 0);
    }

    private static void promise7Length() {
        x = full();
        int[] types = {0, 1, 2, 3, 4, 5, 6, 7, 8, 9, 15};
        for (int type : types) {
            for (int kind = 0; kind <= 12; kind++) {
                long got = x.length(type, kind);
                if (x.is(kind, type) == 1) {
                    works("length(type, kind)", got, 4);
                } else {
                    throwsNow("length(type, kind)", got, CAST);
                }
            }
            throwsNow("length(type, nothing)", x.length(type, EMPTY), NULL);
            for (int cell : BEYOND_CELLS) {
                throwsNow("length(type, no cell)", x.length(type, cell), REFUSED);
            }
        }
        for (int type : new int[] {-1, 10, 11, 12, 13, 14, 16, MIN, MAX}) {
            throwsNow("length(no array type, 10)", x.length(type, 10), REFUSED);
            throwsNow("length(no array type, nothing)", x.length(type, EMPTY), REFUSED);
        }
    }

    private static void promise8Load() {
        x = full();
        for (int type = 0; type <= 6; type++) {
            x.store(type, type, 3, 5 + type);
            works("load(type, type, 3)", x.load(type, type, 3), 5 + type);
            works("load(type, type, 0)", x.load(type, type, 0), 0);
            for (int i : new int[] {-1, 4, MIN, MAX}) {
                throwsNow("load(type, type, beyond)", x.load(type, type, i), INDEX);
            }
            for (int kind = 0; kind <= 12; kind++) {
                if (kind != type) {
                    throwsNow("load(type, kind, 9): cast ahead of index", x.load(type, kind, 9), CAST);
                }
            }
            throwsNow("load(type, nothing, 9): null ahead of index", x.load(type, EMPTY, 9), NULL);
            for (int cell : BEYOND_CELLS) {
                throwsNow("load(type, no cell, 0)", x.load(type, cell, 0), REFUSED);
            }
        }
        for (int type : new int[] {-1, 7, 8, 9, 10, 15, 16, MIN, MAX}) {
            throwsNow("load(no number type, 0, 0)", x.load(type, 0, 0), REFUSED);
            throwsNow("load(no number type, 7, 0)", x.load(type, 7, 0), REFUSED);
        }
    }

    private static void promise9Store() {
        x = full();
        for (int type = 0; type <= 6; type++) {
            works("store(type, type, 1, 6)", x.store(type, type, 1, 6), 1);
            for (int i : new int[] {-1, 4, MIN, MAX}) {
                throwsNow("store(type, type, beyond, 7)", x.store(type, type, i, 7), INDEX);
            }
            for (int kind = 0; kind <= 12; kind++) {
                if (kind != type) {
                    throwsNow("store(type, kind, 9, 7)", x.store(type, kind, 9, 7), CAST);
                }
            }
            throwsNow("store(type, nothing, 9, 7)", x.store(type, EMPTY, 9, 7), NULL);
            for (int cell : BEYOND_CELLS) {
                throwsNow("store(type, no cell, 1, 7)", x.store(type, cell, 1, 7), REFUSED);
            }
            works("load(type, type, 0), as before", x.load(type, type, 0), 0);
            works("load(type, type, 1), as before", x.load(type, type, 1), 6);
        }
        for (int type : new int[] {-1, 7, 8, 9, 10, 15, 16, MIN, MAX}) {
            throwsNow("store(no number type, 0, 1, 7)", x.store(type, 0, 1, 7), REFUSED);
        }
        works("load(0, 0, 1), as before", x.load(0, 0, 1), 6);
    }

    private static void promise9StoreCuts() {
        x = full();
        long[] values = {
            -1L, 127L, 128L, 255L, 256L, 32767L, 32768L, 65535L, 65536L, -129L, 0x7fffffffL, 0x80000000L, 0xffffffffL,
            0x100000001L, Long.MIN_VALUE, Long.MAX_VALUE, 0x123456789abcdef0L,
        };
        for (long v : values) {
            storeAndLoad(0, v, (int) v);
            storeAndLoad(1, v, v);
            storeAndLoad(2, v, (byte) v);
            storeAndLoad(3, v, v & 0xffff);
            storeAndLoad(4, v, (short) v);
        }
        storeAndLoad(5, 0x3f800000L, 0x3f800000L);
        storeAndLoad(5, 0x80000000L, -0x80000000L);
        storeAndLoad(5, 0xff800000L, -0x800000L);
        storeAndLoad(5, 0x7f800000L, 0x7f800000L);
        storeAndLoad(5, 0x7ff000003f800000L, 0x3f800000L);
        for (long nan : new long[] {0x7f800001L, 0x7fc00000L, 0x7fffffffL, 0xff800001L, 0xffc12345L, -1L, 0x17f800001L}) {
            storeAndLoad(5, nan, 0x7fc00000L);
        }
        storeAndLoad(6, 0x3ff0000000000000L, 0x3ff0000000000000L);
        storeAndLoad(6, Long.MIN_VALUE, Long.MIN_VALUE);
        storeAndLoad(6, 0x7ff0000000000000L, 0x7ff0000000000000L);
        storeAndLoad(6, 0xfff0000000000000L, 0xfff0000000000000L);
        for (long nan : new long[] {0x7ff0000000000001L, 0x7ff8000000000000L, Long.MAX_VALUE, 0xfff0000000000001L, -1L}) {
            storeAndLoad(6, nan, 0x7ff8000000000000L);
        }
    }

    private static void storeAndLoad(int type, long v, long want) {
        works("store(" + type + ", " + type + ", 2, " + v + ")", x.store(type, type, 2, v), 1);
        works("load of " + v + " by " + type, x.load(type, type, 2), want);
    }

    private static void promise10Take() {
        x = full();
        x.put(8, 8, 1, 11);
        works("take(8, 8, 1, 14)", x.take(8, 8, 1, 14), 1);
        Check.due("what was taken is what was put", x.same(11, 14), 1);
        works("take(15, 8, 1, 15)", x.take(15, 8, 1, 15), 1);
        Check.due("taken by another type", x.same(11, 15), 1);
        works("take(8, 9, 0, 15): nothing", x.take(8, 9, 0, 15), 1);
        Check.due("nothing was taken", x.same(EMPTY, 15), 1);
        works("take(7, 7, 2, 15)", x.take(7, 7, 2, 15), 1);
        x.store(0, 15, 2, 44);
        works("a row that was taken is the array's own", x.cross(7, 2, 2), 44);
        works("take(7, 7, 3, 7) into its own cell", x.take(7, 7, 3, 7), 1);
        Check.due("cell 7 holds a row", x.is(7, 0), 1);

        x = full();
        throwsNow("take(7, 8, 9, 0)", x.take(7, 8, 9, 0), CAST);
        throwsNow("take(9, 8, 9, 0)", x.take(9, 8, 9, 0), CAST);
        throwsNow("take(15, 7, 9, 0)", x.take(15, 7, 9, 0), CAST);
        throwsNow("take(8, 10, 9, 0)", x.take(8, 10, 9, 0), CAST);
        for (int type : new int[] {7, 8, 9, 15}) {
            int cell = type == 15 ? 9 : type;
            throwsNow("take(type, nothing, 9, 0)", x.take(type, EMPTY, 9, 0), NULL);
            throwsNow("take(type, cell, 4, 0)", x.take(type, cell, 4, 0), INDEX);
            throwsNow("take(type, cell, -1, 0)", x.take(type, cell, -1, 0), INDEX);
            for (int beyond : BEYOND_CELLS) {
                throwsNow("take(type, no cell, 0, 0)", x.take(type, beyond, 0, 0), REFUSED);
                throwsNow("take(type, cell, 9, no cell)", x.take(type, cell, 9, beyond), REFUSED);
            }
        }
        for (int type : new int[] {-1, 0, 6, 10, 13, 14, 16, MIN, MAX}) {
            throwsNow("take(no such type, 8, 0, 0)", x.take(type, 8, 0, 0), REFUSED);
        }
        works("cell 0 as before", x.length(0, 0), 4);
    }

    private static void promise11Put() {
        x = full();
        works("put(7, 7, 0, 0)", x.put(7, 7, 0, 0), 1);
        x.store(0, 0, 3, 5);
        works("a row that was put is the cell's own", x.cross(7, 0, 3), 5);
        works("put(7, 7, 1, nothing)", x.put(7, 7, 1, EMPTY), 1);
        throwsNow("cross of nothing", x.cross(7, 1, 0), NULL);
        for (int thing = 10; thing <= 12; thing++) {
            works("put(8, 8, 0, thing)", x.put(8, 8, 0, thing), 1);
            works("put(15, 8, 1, thing)", x.put(15, 8, 1, thing), 1);
            x.take(8, 8, 0, 14);
            x.take(8, 8, 1, 15);
            Check.due("element 0 is the thing", x.same(14, thing), 1);
            Check.due("element 1 is the thing", x.same(15, thing), 1);
        }
        for (int type : new int[] {8, 9, 15}) {
            works("put(type, 9, 0, 11)", x.put(type, 9, 0, 11), 1);
            works("put(type, 9, 1, 12)", x.put(type, 9, 1, 12), 1);
            works("put(type, 9, 2, 12)", x.put(type, 9, 2, 12), 1);
            works("put(type, 9, 2, nothing)", x.put(type, 9, 2, EMPTY), 1);
            x.take(9, 9, 2, 15);
            Check.due("nothing was put", x.same(15, EMPTY), 1);
        }
        for (int type : new int[] {-1, 0, 6, 10, 13, 14, 16, MIN, MAX}) {
            throwsNow("put(no such type, 8, 0, 10)", x.put(type, 8, 0, 10), REFUSED);
        }
        for (int cell : BEYOND_CELLS) {
            throwsNow("put(8, no cell, 0, 10)", x.put(8, cell, 0, 10), REFUSED);
            throwsNow("put(8, 8, 0, no cell)", x.put(8, 8, 0, cell), REFUSED);
            throwsNow("put(8, 0, 9, no cell): refused first", x.put(8, 0, 9, cell), REFUSED);
        }
    }

    private static void promise11PutOrder() {
        x = full();
        x.put(9, 9, 0, 11);
        throwsNow("put(8, 7, 9, 0): the array's cast", x.put(8, 7, 9, 0), CAST);
        throwsNow("put(9, 8, 0, 11): the array's cast", x.put(9, 8, 0, 11), CAST);
        throwsNow("put(7, nothing, 9, 10): the thing's cast ahead of null", x.put(7, EMPTY, 9, 10), CAST);
        throwsNow("put(7, 7, 9, 1): the thing's cast ahead of index", x.put(7, 7, 9, 1), CAST);
        throwsNow("put(8, nothing, 9, 0)", x.put(8, EMPTY, 9, 0), CAST);
        throwsNow("put(9, nothing, 9, 10)", x.put(9, EMPTY, 9, 10), CAST);
        throwsNow("put(9, 9, 9, 10)", x.put(9, 9, 9, 10), CAST);
        throwsNow("put(15, nothing, 9, 8)", x.put(15, EMPTY, 9, 8), CAST);
        throwsNow("put(15, 9, 0, 0)", x.put(15, 9, 0, 0), CAST);
        throwsNow("put(7, nothing, 9, 0): null ahead of index", x.put(7, EMPTY, 9, 0), NULL);
        throwsNow("put(8, nothing, 9, 10)", x.put(8, EMPTY, 9, 10), NULL);
        throwsNow("put(15, nothing, 9, nothing)", x.put(15, EMPTY, 9, EMPTY), NULL);
        throwsNow("put(8, 9, 4, 10): index ahead of store", x.put(8, 9, 4, 10), INDEX);
        throwsNow("put(15, 9, -1, 10): index ahead of store", x.put(15, 9, -1, 10), INDEX);
        throwsNow("put(7, 7, 4, 0)", x.put(7, 7, 4, 0), INDEX);
        throwsNow("put(8, 9, 0, 10)", x.put(8, 9, 0, 10), STORE);
        throwsNow("put(15, 9, 0, 10)", x.put(15, 9, 0, 10), STORE);
        x.take(9, 9, 0, 15);
        Check.due("element 0 as before", x.same(15, 11), 1);
    }

    private static void promise12Cross() {
        x = full();
        x.take(7, 7, 1, 15);
        x.store(0, 15, 2, -6);
        works("cross(7, 1, 2)", x.cross(7, 1, 2), -6);
        works("cross(7, 2, 2)", x.cross(7, 2, 2), 0);
        throwsNow("cross(7, -1, 9)", x.cross(7, -1, 9), INDEX);
        throwsNow("cross(7, 4, 0)", x.cross(7, 4, 0), INDEX);
        throwsNow("cross(7, 1, 3)", x.cross(7, 1, 3), INDEX);
        throwsNow("cross(7, 1, -1)", x.cross(7, 1, -1), INDEX);
        x.put(7, 7, 3, EMPTY);
        throwsNow("cross(7, 3, 9): null ahead of j", x.cross(7, 3, 9), NULL);
        throwsNow("cross(nothing, 9, 9): null ahead of i", x.cross(EMPTY, 9, 9), NULL);
        for (int kind = 0; kind <= 12; kind++) {
            if (kind != 7) {
                throwsNow("cross(kind, 9, 9)", x.cross(kind, 9, 9), CAST);
            }
        }
        for (int cell : BEYOND_CELLS) {
            throwsNow("cross(no cell, 0, 0)", x.cross(cell, 0, 0), REFUSED);
        }
    }

    /** Stores first, first + 1 .. in the array of a kind. */
    private static void count(int kind, int cell, int n, int first) {
        for (int i = 0; i < n; i++) {
            x.store(kind, cell, i, first + i);
        }
    }

    private static void numbersAre(int kind, int cell, int... wants) {
        for (int i = 0; i < wants.length; i++) {
            works("load(" + kind + ", " + cell + ", " + i + ")", x.load(kind, cell, i), wants[i]);
        }
    }

    private static void promise13CopyNumbers() {
        for (int kind = 0; kind <= 6; kind++) {
            x = new ThrowModels();
            x.make(kind, 0, 6, 0);
            x.make(kind, 1, 4, 0);
            count(kind, 0, 6, 1);
            works("copy(0, 2, 1, 1, 3)", x.copy(0, 2, 1, 1, 3), 1);
            numbersAre(kind, 1, 0, 3, 4, 5);
            works("copy(0, 0, 0, 2, 4): as if all were read first", x.copy(0, 0, 0, 2, 4), 1);
            numbersAre(kind, 0, 1, 2, 1, 2, 3, 4);
            count(kind, 0, 6, 1);
            works("copy(0, 1, 0, 0, 5)", x.copy(0, 1, 0, 0, 5), 1);
            numbersAre(kind, 0, 2, 3, 4, 5, 6, 6);
            works("copy(0, 6, 1, 4, 0)", x.copy(0, 6, 1, 4, 0), 1);
            numbersAre(kind, 1, 0, 3, 4, 5);
        }
    }

    private static void promise13CopyOrder() {
        x = full();
        count(0, 0, 4, 1);
        x.make(0, 15, 4, 0);
        throwsNow("copy(nothing, -1, 10, -1, -1)", x.copy(EMPTY, -1, 10, -1, -1), NULL);
        throwsNow("copy(10, -1, nothing, -1, -1)", x.copy(10, -1, EMPTY, -1, -1), NULL);
        throwsNow("copy(nothing, 0, nothing, 0, 0)", x.copy(EMPTY, 0, EMPTY, 0, 0), NULL);
        for (int own = 10; own <= 12; own++) {
            throwsNow("copy(own, 0, own, 0, 0)", x.copy(own, 0, own, 0, 0), STORE);
            throwsNow("copy(own, -1, 0, 0, 0)", x.copy(own, -1, 0, 0, 0), STORE);
            throwsNow("copy(0, -1, own, 0, 0)", x.copy(0, -1, own, 0, 0), STORE);
            throwsNow("copy(8, -1, own, 0, 0)", x.copy(8, -1, own, 0, 0), STORE);
        }
        for (int a = 0; a <= 9; a++) {
            for (int b = 0; b <= 9; b++) {
                boolean fits = a == b || a >= 7 && b >= 7;
                throwsNow("copy(a, -1, b, 0, 0): store ahead of index", x.copy(a, -1, b, 0, 0), fits ? INDEX : STORE);
            }
        }
        throwsNow("copy(0, -1, 15, 0, 1)", x.copy(0, -1, 15, 0, 1), INDEX);
        throwsNow("copy(0, 0, 15, -1, 1)", x.copy(0, 0, 15, -1, 1), INDEX);
        throwsNow("copy(0, 0, 15, 0, -1)", x.copy(0, 0, 15, 0, -1), INDEX);
        throwsNow("copy(0, 2, 15, 0, 3)", x.copy(0, 2, 15, 0, 3), INDEX);
        throwsNow("copy(0, 0, 15, 2, 3)", x.copy(0, 0, 15, 2, 3), INDEX);
        throwsNow("copy(0, 5, 15, 0, 0)", x.copy(0, 5, 15, 0, 0), INDEX);
        throwsNow("copy(0, 0, 15, 5, 0)", x.copy(0, 0, 15, 5, 0), INDEX);
        throwsNow("copy(0, MAX, 15, 0, MAX): no wrapping", x.copy(0, MAX, 15, 0, MAX), INDEX);
        throwsNow("copy(0, 0, 15, MAX, 1): no wrapping", x.copy(0, 0, 15, MAX, 1), INDEX);
        throwsNow("copy(0, 1, 15, 1, MAX): no wrapping", x.copy(0, 1, 15, 1, MAX), INDEX);
        throwsNow("copy(0, MIN, 15, MIN, MIN): no wrapping", x.copy(0, MIN, 15, MIN, MIN), INDEX);
        for (int cell : BEYOND_CELLS) {
            throwsNow("copy(no cell, 0, nothing, 0, 0)", x.copy(cell, 0, EMPTY, 0, 0), REFUSED);
            throwsNow("copy(nothing, 0, no cell, 0, 0)", x.copy(EMPTY, 0, cell, 0, 0), REFUSED);
        }
        numbersAre(0, 15, 0, 0, 0, 0);
        numbersAre(0, 0, 1, 2, 3, 4);
    }

    /** Whether the elements of an array of things are those of these cells. */
    private static void elementsAre(int type, int cell, int... wants) {
        for (int i = 0; i < wants.length; i++) {
            works("take(" + type + ", " + cell + ", " + i + ", 15)", x.take(type, cell, i, 15), 1);
            Check.due("element " + i + " of cell " + cell, x.same(15, wants[i]), 1);
        }
    }

    private static void promise13CopyThings() {
        x = full();
        x.put(8, 8, 0, 10);
        x.put(8, 8, 1, 11);
        x.put(8, 8, 2, 12);
        works("copy(8, 0, 8, 1, 3): as if all were read first", x.copy(8, 0, 8, 1, 3), 1);
        elementsAre(8, 8, 10, 10, 11, 12);
        works("copy(8, 2, 8, 0, 2)", x.copy(8, 2, 8, 0, 2), 1);
        elementsAre(8, 8, 11, 12, 11, 12);
        works("copy(8, 0, 9, 0, 4): all are rounds", x.copy(8, 0, 9, 0, 4), 1);
        elementsAre(9, 9, 11, 12, 11, 12);
        x.put(9, 9, 1, EMPTY);
        works("copy(9, 0, 8, 2, 2)", x.copy(9, 0, 8, 2, 2), 1);
        elementsAre(8, 8, 11, 12, 11, EMPTY);
        works("copy(8, 3, 7, 0, 1): nothing passes", x.copy(8, 3, 7, 0, 1), 1);
        throwsNow("cross of nothing", x.cross(7, 0, 0), NULL);
        x.make(7, 14, 2, 1);
        works("copy(7, 1, 14, 0, 1)", x.copy(7, 1, 14, 0, 1), 1);
        works("a copied row is the same row", x.cross(14, 0, 2), 0);
        works("copy(14, 0, 9, 0, 0): none to look at", x.copy(14, 0, 9, 0, 0), 1);
    }

    private static void promise13CopyStopsInTheMidst() {
        x = full();
        x.make(8, 14, 4, 0);
        x.put(8, 14, 0, 11);
        x.put(8, 14, 1, EMPTY);
        x.put(8, 14, 2, 10);
        x.put(8, 14, 3, 12);
        for (int i = 0; i < 4; i++) {
            x.put(9, 9, i, 12);
        }
        throwsNow("copy(14, 0, 9, 0, 4)", x.copy(14, 0, 9, 0, 4), STORE);
        elementsAre(9, 9, 11, EMPTY, 12, 12);
        throwsNow("copy(14, 2, 9, 0, 1)", x.copy(14, 2, 9, 0, 1), STORE);
        elementsAre(9, 9, 11, EMPTY, 12, 12);
        works("copy(14, 3, 9, 0, 1)", x.copy(14, 3, 9, 0, 1), 1);
        elementsAre(9, 9, 12, EMPTY, 12, 12);
        x.put(7, 7, 0, EMPTY);
        throwsNow("copy(7, 0, 8, 2, 2)", x.copy(7, 0, 8, 2, 2), STORE);
        throwsNow("copy(9, 0, 7, 2, 2)", x.copy(9, 0, 7, 2, 2), STORE);
        works("the row stays", x.cross(7, 2, 2), 0);
        throwsNow("copy(9, 1, 7, 2, 2)", x.copy(9, 1, 7, 2, 2), STORE);
        throwsNow("the nothing before it was copied", x.cross(7, 2, 2), NULL);
        Check.due("each stop counts once", x.thrown(STORE), 5);
    }

    private static void promise14Field() {
        x = full();
        for (int type = 10; type <= 12; type++) {
            for (int kind = 0; kind <= 12; kind++) {
                if (kind >= type) {
                    works("field(type, kind)", x.field(type, kind), 10);
                } else {
                    throwsNow("field(type, kind)", x.field(type, kind), CAST);
                }
            }
            throwsNow("field(type, nothing)", x.field(type, EMPTY), NULL);
            for (int cell : BEYOND_CELLS) {
                throwsNow("field(type, no cell)", x.field(type, cell), REFUSED);
            }
        }
        for (int type : new int[] {-1, 0, 9, 13, 14, 15, 16, MIN, MAX}) {
            throwsNow("field(no own type, 12)", x.field(type, 12), REFUSED);
        }
    }

    private static void promise15Write() {
        for (int type = 10; type <= 12; type++) {
            x = full();
            for (int kind = 0; kind <= 12; kind++) {
                if (kind >= type) {
                    works("write(type, kind, MIN)", x.write(type, kind, MIN), 1);
                    works("field behind write", x.field(10, kind), MIN);
                } else {
                    throwsNow("write(type, kind, 5)", x.write(type, kind, 5), CAST);
                }
            }
            throwsNow("write(type, nothing, 5)", x.write(type, EMPTY, 5), NULL);
            for (int cell : BEYOND_CELLS) {
                throwsNow("write(type, no cell, 5)", x.write(type, cell, 5), REFUSED);
            }
            for (int kind = 10; kind < type; kind++) {
                works("field, as before", x.field(10, kind), 10);
            }
        }
        for (int type : new int[] {-1, 0, 9, 13, 14, 15, 16, MIN, MAX}) {
            throwsNow("write(no own type, 12, 5)", x.write(type, 12, 5), REFUSED);
        }
        works("field, as before", x.field(12, 12), MIN);
    }

    private static void answersAre(int kind, int a, int... wants) {
        x.make(kind, 0, a, 0);
        for (int which = 0; which < wants.length; which++) {
            works("call " + which + " of kind " + kind + " with " + a, x.call(0, which), wants[which]);
        }
    }

    private static void promise16Call() {
        x = full();
        answersAre(10, 7, 7, 14, 50, 1007, 2, 7, 142);
        answersAre(11, 7, 14, 142, 50, 1027, 4, 14, 142);
        answersAre(12, 7, 15, 145, 500, 1030, 0, 15, 142);
        answersAre(10, 1, 1, 2, 8, 1001, 1, 1, 1000);
        answersAre(10, -7, -7, -14, -48, 993, -2);
        throwsNow("trouble of a plain", x.call(0, 5), OWN);
        works("deep of a plain", x.call(0, 6), -142);
        answersAre(11, -4, -8, 76, -27, 1016, -3);
        throwsNow("trouble of a round", x.call(0, 5), OWN);
        works("deep of a round", x.call(0, 6), -250);
        answersAre(12, -4, -7, 79, -270, 1019, -2);
        throwsNow("trouble of a square", x.call(0, 5), OWN);
        answersAre(12, 0, 1, 103, 10, 1023, 1, 1);
        for (int kind = 10; kind <= 12; kind++) {
            x.make(kind, 0, 0, 0);
            throwsNow("deep by 0", x.call(0, 6), DIVISION);
            works("trouble with 0", x.call(0, 5), kind == 12 ? 1 : 0);
        }
        x = full();
        for (int which = 0; which <= 6; which++) {
            for (int kind = 0; kind <= 9; kind++) {
                throwsNow("call(kind, which)", x.call(kind, which), CAST);
            }
            throwsNow("call(nothing, which)", x.call(EMPTY, which), NULL);
            for (int cell : BEYOND_CELLS) {
                throwsNow("call(no cell, which)", x.call(cell, which), REFUSED);
            }
        }
        for (int which : new int[] {-1, 7, MIN, MAX}) {
            throwsNow("call(10, no method)", x.call(10, which), REFUSED);
            throwsNow("call(0, no method)", x.call(0, which), REFUSED);
        }
    }

    private static void promise16CallWraps() {
        answersAre(10, MAX, MAX, -2, 7 * MAX + 1, MIN + 999, 2, MAX, 0);
        answersAre(11, MAX, -2, 94, 7 * MAX + 1, MIN + 1019, -2);
        throwsNow("trouble that wrapped below 0", x.call(0, 5), OWN);
        answersAre(12, MAX, -1, 97, 10 * (7 * MAX + 1), MIN + 1022, -1);
        throwsNow("trouble of a square that wrapped", x.call(0, 5), OWN);
        answersAre(11, MIN, 0, 100, MIN + 1, MIN + 1020, 0, 0, 0);
        answersAre(12, MIN, 1, 103, 10, MIN + 1023, 1, 1, 0);
        answersAre(12, 0x40000000, MIN + 1, MIN + 103, 10 * (7 * 0x40000000 + 1), 0x40000000 + 1023, -2);
    }
}
