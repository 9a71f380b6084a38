/** Promises 8 to 12 with LOAD, STORE, TAKEN and PUT of section 2: single elements of arrays. */
final class ElementsTest extends Cases {
    private static final int[] NO_NUMBER_TYPES = {-1, 7, 8, 9, 10, 11, 12, 13, 14, 15, 16, MIN, MAX};
    private static final int[] NO_THING_TYPES = {-1, 0, 6, 10, 11, 12, 13, 14, 16, MIN, MAX};
    private static final long FLOAT_NAN = 0x7fc00000L;
    private static final long DOUBLE_NAN = 0x7ff8000000000000L;

    public static void main(String[] args) {
        run(ElementsTest.class);
    }

    // ---- 8: load

    static void promise08TheFirstAndTheLastElement() {
        for (int type : NUMBER_TYPES) {
            count(type, type, 4, 20);
            works("load(" + type + ", " + type + ", 0)", x.load(type, type, 0), 20);
            works("load(" + type + ", " + type + ", 3)", x.load(type, type, 3), 23);
        }
    }

    static void promise08AnIndexBelow0OrFromTheLengthOn() {
        for (int type : NUMBER_TYPES) {
            for (int i : NO_INDEX_OF_4) {
                throwsNow("load(" + type + ", " + type + ", " + i + ")", x.load(type, type, i), INDEX);
            }
        }
    }

    static void promise08AnArrayOfLength0HasNoElement() {
        for (int type : NUMBER_TYPES) {
            x.make(type, 15, 0, 0);
            throwsNow("load(" + type + ", 15, 0)", x.load(type, 15, 0), INDEX);
            throwsNow("load(" + type + ", 15, -1)", x.load(type, 15, -1), INDEX);
        }
    }

    static void promise08AnArrayOfLength64() {
        for (int type : NUMBER_TYPES) {
            x.make(type, 15, 64, 0);
            x.store(type, 15, 63, 9);
            works("load(" + type + ", 15, 63)", x.load(type, 15, 63), 9);
            throwsNow("load(" + type + ", 15, 64)", x.load(type, 15, 64), INDEX);
        }
    }

    static void promise08CastIsAheadOfIndex() {
        for (int type : NUMBER_TYPES) {
            for (int kind = 0; kind <= 12; kind++) {
                if (kind != type) {
                    throwsNow("load(" + type + ", " + kind + ", 4)", x.load(type, kind, 4), CAST);
                    throwsNow("load(" + type + ", " + kind + ", 0)", x.load(type, kind, 0), CAST);
                }
            }
        }
    }

    static void promise08NullIsAheadOfIndex() {
        for (int type : NUMBER_TYPES) {
            throwsNow("load(" + type + ", nothing, -1)", x.load(type, EMPTY, -1), NULL);
            throwsNow("load(" + type + ", nothing, 0)", x.load(type, EMPTY, 0), NULL);
        }
    }

    static void promise08NoNumberTypeIsRefusedFirst() {
        for (int type : NO_NUMBER_TYPES) {
            throwsNow("load(" + type + ", 0, 0)", x.load(type, 0, 0), REFUSED);
            throwsNow("load(" + type + ", nothing, -1)", x.load(type, EMPTY, -1), REFUSED);
            throwsNow("load(" + type + ", 8, 0)", x.load(type, 8, 0), REFUSED);
        }
    }

    static void promise08NoCellIsRefused() {
        for (int type : NUMBER_TYPES) {
            for (int cell : NO_CELLS) {
                throwsNow("load(" + type + ", " + cell + ", 0)", x.load(type, cell, 0), REFUSED);
            }
        }
    }

    static void promise08OfARow() {
        x.take(7, 7, 3, 15);
        works("load(0, a row, 2)", x.load(0, 15, 2), 0);
        throwsNow("load(0, a row, 3)", x.load(0, 15, 3), INDEX);
        throwsNow("load(0, the rows, 0)", x.load(0, 7, 0), CAST);
    }

    // ---- 9: store

    private static void storedIsLoaded(int type, long v, long want) {
        works("store(" + type + ", " + type + ", 2, " + v + ")", x.store(type, type, 2, v), 1);
        works("load of " + v + " by " + type, x.load(type, type, 2), want);
    }

    static void promise09ChangesTheOneElement() {
        for (int type : NUMBER_TYPES) {
            for (int i = 0; i < 4; i++) {
                x = full();
                count(type, type, 4, 20);
                works("store(" + type + ", " + type + ", " + i + ", 99)", x.store(type, type, i, 99), 1);
                for (int other = 0; other < 4; other++) {
                    works("load(" + other + ")", x.load(type, type, other), other == i ? 99 : 20 + other);
                }
            }
        }
    }

    static void promise09IsSeenInEveryCellThatHoldsTheArray() {
        for (int type : NUMBER_TYPES) {
            x.move(type, 15);
            works("store(" + type + ", 15, 1, 7)", x.store(type, 15, 1, 7), 1);
            numbersAre(type, type, 0, 7, 0, 0);
        }
    }

    static void promise09IntsAreCutTo32Bits() {
        storedIsLoaded(0, 0x7fffffffL, MAX);
        storedIsLoaded(0, 0x80000000L, MIN);
        storedIsLoaded(0, 0xffffffffL, -1);
        storedIsLoaded(0, 0x100000000L, 0);
        storedIsLoaded(0, -0x80000000L, MIN);
        storedIsLoaded(0, -0x80000001L, MAX);
        storedIsLoaded(0, Long.MAX_VALUE, -1);
        storedIsLoaded(0, Long.MIN_VALUE, 0);
    }

    static void promise09LongsAreNotCut() {
        for (long v : new long[] {0, -1, 0x7fffffffL, 0x80000000L, 0x100000000L, Long.MAX_VALUE, Long.MIN_VALUE}) {
            storedIsLoaded(1, v, v);
        }
    }

    static void promise09BytesAreCutTo8Bits() {
        storedIsLoaded(2, 127, 127);
        storedIsLoaded(2, 128, -128);
        storedIsLoaded(2, 255, -1);
        storedIsLoaded(2, 256, 0);
        storedIsLoaded(2, -128, -128);
        storedIsLoaded(2, -129, 127);
        storedIsLoaded(2, Long.MAX_VALUE, -1);
        storedIsLoaded(2, Long.MIN_VALUE, 0);
    }

    static void promise09CharsAreCutTo16BitsAndNeverBelow0() {
        storedIsLoaded(3, 32767, 32767);
        storedIsLoaded(3, 32768, 32768);
        storedIsLoaded(3, 65535, 65535);
        storedIsLoaded(3, 65536, 0);
        storedIsLoaded(3, -1, 65535);
        storedIsLoaded(3, -65535, 1);
        storedIsLoaded(3, -65536, 0);
        storedIsLoaded(3, Long.MAX_VALUE, 65535);
        storedIsLoaded(3, Long.MIN_VALUE, 0);
    }

    static void promise09ShortsAreCutTo16Bits() {
        storedIsLoaded(4, 32767, 32767);
        storedIsLoaded(4, 32768, -32768);
        storedIsLoaded(4, 65535, -1);
        storedIsLoaded(4, 65536, 0);
        storedIsLoaded(4, -32768, -32768);
        storedIsLoaded(4, -32769, 32767);
        storedIsLoaded(4, Long.MAX_VALUE, -1);
        storedIsLoaded(4, Long.MIN_VALUE, 0);
    }

    static void promise09FloatsAreTheLowest32Bits() {
        storedIsLoaded(5, 0x3f800000L, 0x3f800000L);
        storedIsLoaded(5, 0x7ff000003f800000L, 0x3f800000L);
        storedIsLoaded(5, 0x100000000L, 0);
        storedIsLoaded(5, 1, 1);
        storedIsLoaded(5, 0x7fffffL, 0x7fffffL);
        storedIsLoaded(5, 0x800000L, 0x800000L);
        storedIsLoaded(5, 0x7f7fffffL, 0x7f7fffffL);
        storedIsLoaded(5, 0x7f800000L, 0x7f800000L);
    }

    static void promise08TheHighestBitOfAFloatIsSpread() {
        storedIsLoaded(5, 0x80000000L, -0x80000000L);
        storedIsLoaded(5, 0x80000001L, -0x7fffffffL);
        storedIsLoaded(5, 0xbf800000L, -0x40800000L);
        storedIsLoaded(5, 0xff7fffffL, -0x800001L);
        storedIsLoaded(5, 0xff800000L, -0x800000L);
    }

    static void promise08EachNaNOfAFloatIsOne() {
        for (long nan : new long[] {0x7f800001L, 0x7fbfffffL, 0x7fc00000L, 0x7fc00001L, 0x7fffffffL}) {
            storedIsLoaded(5, nan, FLOAT_NAN);
            storedIsLoaded(5, nan | 0x80000000L, FLOAT_NAN);
            storedIsLoaded(5, nan | 0xffffffff80000000L, FLOAT_NAN);
            storedIsLoaded(5, nan | 0x100000000L, FLOAT_NAN);
        }
    }

    static void promise09DoublesAreAll64Bits() {
        long[] all = {
            0, 1, 0xfffffffffffffL, 0x10000000000000L, 0x3ff0000000000000L, 0x7fefffffffffffffL, 0x7ff0000000000000L,
        };
        for (long bits : all) {
            storedIsLoaded(6, bits, bits);
            storedIsLoaded(6, bits | Long.MIN_VALUE, bits | Long.MIN_VALUE);
        }
    }

    static void promise08EachNaNOfADoubleIsOne() {
        for (long nan : new long[] {0x7ff0000000000001L, 0x7ff7ffffffffffffL, DOUBLE_NAN, DOUBLE_NAN + 1, Long.MAX_VALUE}) {
            storedIsLoaded(6, nan, DOUBLE_NAN);
            storedIsLoaded(6, nan | Long.MIN_VALUE, DOUBLE_NAN);
        }
    }

    static void promise09AnIndexBelow0OrFromTheLengthOn() {
        for (int type : NUMBER_TYPES) {
            count(type, type, 4, 20);
            for (int i : NO_INDEX_OF_4) {
                throwsNow("store(" + type + ", " + type + ", " + i + ", 7)", x.store(type, type, i, 7), INDEX);
            }
            numbersAre(type, type, 20, 21, 22, 23);
        }
    }

    static void promise09AnArrayOfLength0HasNoElement() {
        for (int type : NUMBER_TYPES) {
            x.make(type, 15, 0, 0);
            throwsNow("store(" + type + ", 15, 0, 7)", x.store(type, 15, 0, 7), INDEX);
        }
    }

    static void promise09AnArrayOfLength64() {
        for (int type : NUMBER_TYPES) {
            x.make(type, 15, 64, 0);
            works("store(" + type + ", 15, 63, 7)", x.store(type, 15, 63, 7), 1);
            throwsNow("store(" + type + ", 15, 64, 7)", x.store(type, 15, 64, 7), INDEX);
        }
    }

    static void promise09CastIsAheadOfIndex() {
        for (int type : NUMBER_TYPES) {
            for (int kind = 0; kind <= 12; kind++) {
                if (kind != type) {
                    throwsNow("store(" + type + ", " + kind + ", 4, 7)", x.store(type, kind, 4, 7), CAST);
                    throwsNow("store(" + type + ", " + kind + ", 0, 7)", x.store(type, kind, 0, 7), CAST);
                }
            }
        }
    }

    static void promise09NullIsAheadOfIndex() {
        for (int type : NUMBER_TYPES) {
            throwsNow("store(" + type + ", nothing, -1, 7)", x.store(type, EMPTY, -1, 7), NULL);
            throwsNow("store(" + type + ", nothing, 0, 7)", x.store(type, EMPTY, 0, 7), NULL);
        }
    }

    static void promise09NoNumberTypeIsRefusedFirst() {
        for (int type : NO_NUMBER_TYPES) {
            throwsNow("store(" + type + ", 0, 0, 7)", x.store(type, 0, 0, 7), REFUSED);
            throwsNow("store(" + type + ", nothing, -1, 7)", x.store(type, EMPTY, -1, 7), REFUSED);
        }
        numbersAre(0, 0, 0, 0, 0, 0);
    }

    static void promise09NoCellIsRefused() {
        for (int type : NUMBER_TYPES) {
            for (int cell : NO_CELLS) {
                throwsNow("store(" + type + ", " + cell + ", 0, 7)", x.store(type, cell, 0, 7), REFUSED);
            }
        }
    }

    // ---- 10: take

    static void promise10TheFirstAndTheLastElement() {
        makeThings(8, 8, 10, 11, 12, 10);
        works("take(8, 8, 0, 15)", x.take(8, 8, 0, 15), 1);
        due("same(10, 15)", x.same(10, 15), 1);
        works("take(8, 8, 2, 15)", x.take(8, 8, 2, 15), 1);
        due("same(12, 15)", x.same(12, 15), 1);
        works("take(8, 8, 3, 15)", x.take(8, 8, 3, 15), 1);
        due("same(10, 15)", x.same(10, 15), 1);
    }

    static void promise10ByEachTypeThatTheArrayIsOf() {
        x.put(8, 8, 1, 12);
        x.put(9, 9, 1, 12);
        int[][] typesAndCells = {{8, 8}, {15, 8}, {9, 9}, {8, 9}, {15, 9}};
        for (int[] pair : typesAndCells) {
            x.move(-1, 15);
            works("take(" + pair[0] + ", " + pair[1] + ", 1, 15)", x.take(pair[0], pair[1], 1, 15), 1);
            due("same(12, 15)", x.same(12, 15), 1);
        }
    }

    static void promise10ARowIsTheArraysOwn() {
        works("take(7, 7, 2, 15)", x.take(7, 7, 2, 15), 1);
        x.store(0, 15, 2, 44);
        works("cross(7, 2, 2)", x.cross(7, 2, 2), 44);
    }

    static void promise10AnElementThatIsNothing() {
        for (int type : new int[] {8, 9, 15}) {
            x.make(10, 15, 1, 0);
            works("take(" + type + ", 9, 0, 15)", x.take(type, 9, 0, 15), 1);
            due("same(15, nothing)", x.same(15, EMPTY), 1);
        }
        x.put(7, 7, 0, EMPTY);
        works("take(7, 7, 0, 7)", x.take(7, 7, 0, 7), 1);
        due("same(7, nothing)", x.same(7, EMPTY), 1);
    }

    static void promise10IntoTheCellOfTheArray() {
        works("take(7, 7, 3, 7)", x.take(7, 7, 3, 7), 1);
        due("is(7, 0)", x.is(7, 0), 1);
        numbersAre(0, 7, 0, 0, 0);
    }

    static void promise10AnIndexBelow0OrFromTheLengthOn() {
        for (int type : THING_TYPES) {
            int cell = type == 15 ? 9 : type;
            for (int i : NO_INDEX_OF_4) {
                throwsNow("take(" + type + ", " + cell + ", " + i + ", 0)", x.take(type, cell, i, 0), INDEX);
            }
        }
        works("length(0, 0), as before", x.length(0, 0), 4);
    }

    static void promise10OfLengths0And64() {
        for (int type : THING_TYPES) {
            int kind = type == 15 ? 8 : type;
            x.make(kind, 14, 0, 0);
            throwsNow("take(" + type + ", 14, 0, 15)", x.take(type, 14, 0, 15), INDEX);
            x.make(kind, 14, 64, 1);
            works("take(" + type + ", 14, 63, 15)", x.take(type, 14, 63, 15), 1);
            throwsNow("take(" + type + ", 14, 64, 15)", x.take(type, 14, 64, 15), INDEX);
        }
    }

    static void promise10CastIsAheadOfIndex() {
        for (int type : THING_TYPES) {
            for (int kind = 0; kind <= 12; kind++) {
                if (x.is(kind, type) == 0) {
                    throwsNow("take(" + type + ", " + kind + ", 4, 0)", x.take(type, kind, 4, 0), CAST);
                    throwsNow("take(" + type + ", " + kind + ", 0, 0)", x.take(type, kind, 0, 0), CAST);
                }
            }
        }
        works("length(0, 0), as before", x.length(0, 0), 4);
    }

    static void promise10PlainsAreNotTakenAsRounds() {
        makeThings(8, 8, 11, 12);
        throwsNow("take(9, 8, 0, 15): though it holds a ROUND", x.take(9, 8, 0, 15), CAST);
    }

    static void promise10NullIsAheadOfIndex() {
        for (int type : THING_TYPES) {
            throwsNow("take(" + type + ", nothing, -1, 0)", x.take(type, EMPTY, -1, 0), NULL);
            throwsNow("take(" + type + ", nothing, 0, 0)", x.take(type, EMPTY, 0, 0), NULL);
        }
        works("length(0, 0), as before", x.length(0, 0), 4);
    }

    static void promise10NoSuchTypeIsRefusedFirst() {
        for (int type : NO_THING_TYPES) {
            throwsNow("take(" + type + ", 8, 0, 0)", x.take(type, 8, 0, 0), REFUSED);
            throwsNow("take(" + type + ", 0, 0, 0)", x.take(type, 0, 0, 0), REFUSED);
            throwsNow("take(" + type + ", nothing, -1, 0)", x.take(type, EMPTY, -1, 0), REFUSED);
        }
        works("length(0, 0), as before", x.length(0, 0), 4);
    }

    static void promise10NoCellIsRefusedFirst() {
        for (int type : THING_TYPES) {
            for (int cell : NO_CELLS) {
                throwsNow("take(" + type + ", " + cell + ", 0, 0)", x.take(type, cell, 0, 0), REFUSED);
                throwsNow("take(" + type + ", 9, 4, " + cell + ")", x.take(type, 9, 4, cell), REFUSED);
                throwsNow("take(" + type + ", nothing, 0, " + cell + ")", x.take(type, EMPTY, 0, cell), REFUSED);
            }
        }
    }

    // ---- 11: put

    static void promise11ARowIsTheCellsOwn() {
        works("put(7, 7, 0, 0)", x.put(7, 7, 0, 0), 1);
        works("put(7, 7, 3, 0)", x.put(7, 7, 3, 0), 1);
        x.store(0, 0, 3, 5);
        works("cross(7, 0, 3): longer than the row before it", x.cross(7, 0, 3), 5);
        works("cross(7, 3, 3)", x.cross(7, 3, 3), 5);
        throwsNow("cross(7, 1, 3)", x.cross(7, 1, 3), INDEX);
    }

    static void promise11OwnThingsIntoPlains() {
        for (int type : new int[] {8, 15}) {
            works("put(" + type + ", 8, 0, 10)", x.put(type, 8, 0, 10), 1);
            works("put(" + type + ", 8, 1, 11)", x.put(type, 8, 1, 11), 1);
            works("put(" + type + ", 8, 3, 12)", x.put(type, 8, 3, 12), 1);
            elementsAre(8, 8, 10, 11, EMPTY, 12);
        }
    }

    static void promise11OwnThingsIntoRounds() {
        for (int type : new int[] {8, 9, 15}) {
            x.make(9, 9, 4, 0);
            works("put(" + type + ", 9, 0, 11)", x.put(type, 9, 0, 11), 1);
            works("put(" + type + ", 9, 3, 12)", x.put(type, 9, 3, 12), 1);
            elementsAre(9, 9, 11, EMPTY, EMPTY, 12);
        }
    }

    static void promise11NothingPasses() {
        for (int type : THING_TYPES) {
            int cell = type == 15 ? 9 : type;
            x.put(type, cell, 0, type == 7 ? 0 : 12);
            works("put(" + type + ", " + cell + ", 0, nothing)", x.put(type, cell, 0, EMPTY), 1);
            works("take(" + type + ", " + cell + ", 0, 15)", x.take(type, cell, 0, 15), 1);
            due("same(15, nothing)", x.same(15, EMPTY), 1);
        }
    }

    static void promise11CastOfTheArrayIsAheadOfAll() {
        for (int type : THING_TYPES) {
            for (int kind = 0; kind <= 12; kind++) {
                if (x.is(kind, type) == 0) {
                    throwsNow("put(" + type + ", " + kind + ", 4, nothing)", x.put(type, kind, 4, EMPTY), CAST);
                    throwsNow("put(" + type + ", " + kind + ", 0, 12)", x.put(type, kind, 0, 12), CAST);
                }
            }
        }
    }

    static void promise11CastOfTheThingIsAheadOfNullAndIndex() {
        int[] typesOfElements = {0, 10, 11, 13};
        for (int at = 0; at < THING_TYPES.length; at++) {
            int type = THING_TYPES[at];
            for (int thing = 0; thing <= 12; thing++) {
                if (x.is(thing, typesOfElements[at]) == 0) {
                    String call = "put(" + type + ", .., " + thing + ")";
                    throwsNow(call + " into nothing", x.put(type, EMPTY, 0, thing), CAST);
                    throwsNow(call + " behind the array", x.put(type, type == 15 ? 9 : type, 4, thing), CAST);
                }
            }
        }
    }

    static void promise11ThingsThatPassTheCastIntoNothing() {
        throwsNow("put(7, nothing, -1, 0)", x.put(7, EMPTY, -1, 0), NULL);
        throwsNow("put(7, nothing, 0, nothing)", x.put(7, EMPTY, 0, EMPTY), NULL);
        for (int thing = 10; thing <= EMPTY; thing++) {
            throwsNow("put(8, nothing, -1, " + thing + ")", x.put(8, EMPTY, -1, thing), NULL);
            throwsNow("put(15, nothing, 0, " + thing + ")", x.put(15, EMPTY, 0, thing), NULL);
        }
        for (int thing = 11; thing <= EMPTY; thing++) {
            throwsNow("put(9, nothing, 4, " + thing + ")", x.put(9, EMPTY, 4, thing), NULL);
        }
    }

    static void promise11AnIndexBelow0OrFromTheLengthOn() {
        for (int type : THING_TYPES) {
            int cell = type == 15 ? 9 : type;
            for (int i : NO_INDEX_OF_4) {
                String call = "put(" + type + ", " + cell + ", " + i + ", ..)";
                throwsNow(call, x.put(type, cell, i, type == 7 ? 0 : 12), INDEX);
                throwsNow(call + " of nothing", x.put(type, cell, i, EMPTY), INDEX);
            }
        }
        elementsAre(9, 9, EMPTY, EMPTY, EMPTY, EMPTY);
    }

    static void promise11OfLengths0And64() {
        for (int type : THING_TYPES) {
            int kind = type == 15 ? 8 : type;
            int thing = type == 7 ? 0 : 12;
            x.make(kind, 14, 0, 0);
            throwsNow("put(" + type + ", 14, 0, ..)", x.put(type, 14, 0, thing), INDEX);
            x.make(kind, 14, 64, 1);
            works("put(" + type + ", 14, 63, ..)", x.put(type, 14, 63, thing), 1);
            throwsNow("put(" + type + ", 14, 64, ..)", x.put(type, 14, 64, thing), INDEX);
        }
    }

    static void promise11APlainIntoRoundsIsStore() {
        x.put(9, 9, 0, 11);
        throwsNow("put(8, 9, 0, 10)", x.put(8, 9, 0, 10), STORE);
        throwsNow("put(15, 9, 0, 10)", x.put(15, 9, 0, 10), STORE);
        throwsNow("put(8, 9, 3, 10)", x.put(8, 9, 3, 10), STORE);
        elementsAre(9, 9, 11, EMPTY, EMPTY, EMPTY);
    }

    static void promise11IndexIsAheadOfStore() {
        for (int i : NO_INDEX_OF_4) {
            throwsNow("put(8, 9, " + i + ", 10)", x.put(8, 9, i, 10), INDEX);
            throwsNow("put(15, 9, " + i + ", 10)", x.put(15, 9, i, 10), INDEX);
        }
    }

    static void promise11APlainByTheTypeOfRoundsIsCast() {
        throwsNow("put(9, 9, 0, 10)", x.put(9, 9, 0, 10), CAST);
        throwsNow("put(9, 8, 0, 11): PLAINS are no ROUNDS", x.put(9, 8, 0, 11), CAST);
    }

    static void promise11NoSuchTypeIsRefusedFirst() {
        for (int type : NO_THING_TYPES) {
            throwsNow("put(" + type + ", 8, 0, 10)", x.put(type, 8, 0, 10), REFUSED);
            throwsNow("put(" + type + ", nothing, -1, 0)", x.put(type, EMPTY, -1, 0), REFUSED);
        }
        elementsAre(8, 8, EMPTY, EMPTY, EMPTY, EMPTY);
    }

    static void promise11NoCellIsRefusedFirst() {
        for (int type : THING_TYPES) {
            for (int cell : NO_CELLS) {
                throwsNow("put(" + type + ", " + cell + ", 0, 12)", x.put(type, cell, 0, 12), REFUSED);
                throwsNow("put(" + type + ", 0, 9, " + cell + ")", x.put(type, 0, 9, cell), REFUSED);
                throwsNow("put(" + type + ", nothing, 0, " + cell + ")", x.put(type, EMPTY, 0, cell), REFUSED);
            }
        }
    }

    // ---- 12: cross

    static void promise12TheFirstAndTheLastInt() {
        int[][] places = {{0, 0}, {0, 2}, {3, 0}, {3, 2}};
        for (int[] place : places) {
            x.take(7, 7, place[0], 15);
            x.store(0, 15, place[1], 10 * place[0] + place[1] - 6);
        }
        for (int[] place : places) {
            works("cross(7, ..)", x.cross(7, place[0], place[1]), 10 * place[0] + place[1] - 6);
        }
        works("cross(7, 1, 1)", x.cross(7, 1, 1), 0);
    }

    static void promise12TheLowestAndTheHighestInt() {
        x.take(7, 7, 0, 15);
        x.store(0, 15, 0, MIN);
        x.store(0, 15, 1, MAX);
        works("cross(7, 0, 0)", x.cross(7, 0, 0), MIN);
        works("cross(7, 0, 1)", x.cross(7, 0, 1), MAX);
    }

    static void promise12AnIndexOfTheArray() {
        for (int i : NO_INDEX_OF_4) {
            throwsNow("cross(7, " + i + ", 0)", x.cross(7, i, 0), INDEX);
            throwsNow("cross(7, " + i + ", 9)", x.cross(7, i, 9), INDEX);
        }
    }

    static void promise12AnIndexOfTheRow() {
        for (int j : new int[] {-1, 3, 4, MIN, MAX}) {
            throwsNow("cross(7, 0, " + j + ")", x.cross(7, 0, j), INDEX);
            throwsNow("cross(7, 3, " + j + ")", x.cross(7, 3, j), INDEX);
        }
    }

    static void promise12NoRowsAndRowsOfNoInts() {
        x.make(7, 15, 0, 3);
        throwsNow("cross(no rows, 0, 0)", x.cross(15, 0, 0), INDEX);
        x.make(7, 15, 3, 0);
        throwsNow("cross(rows of 0, 2, 0)", x.cross(15, 2, 0), INDEX);
    }

    static void promise12RowsOfUnlikeLengths() {
        x.make(0, 15, 1, 0);
        x.put(7, 7, 1, 15);
        works("cross(7, 1, 0)", x.cross(7, 1, 0), 0);
        throwsNow("cross(7, 1, 1)", x.cross(7, 1, 1), INDEX);
        works("cross(7, 2, 2)", x.cross(7, 2, 2), 0);
    }

    static void promise12ARowOfNothingIsNullAheadOfItsIndex() {
        x.put(7, 7, 3, EMPTY);
        throwsNow("cross(7, 3, 0)", x.cross(7, 3, 0), NULL);
        throwsNow("cross(7, 3, -1)", x.cross(7, 3, -1), NULL);
        throwsNow("cross(7, 4, 0): INDEX of the array ahead", x.cross(7, 4, 0), INDEX);
    }

    static void promise12ACellOfNothingIsNullAheadOfIndex() {
        throwsNow("cross(nothing, 0, 0)", x.cross(EMPTY, 0, 0), NULL);
        throwsNow("cross(nothing, -1, -1)", x.cross(EMPTY, -1, -1), NULL);
    }

    static void promise12OtherKindsAreCastAheadOfIndex() {
        for (int kind = 0; kind <= 12; kind++) {
            if (kind != 7) {
                throwsNow("cross(" + kind + ", 0, 0)", x.cross(kind, 0, 0), CAST);
                throwsNow("cross(" + kind + ", -1, -1)", x.cross(kind, -1, -1), CAST);
            }
        }
    }

    static void promise12NoCellIsRefused() {
        for (int cell : NO_CELLS) {
            throwsNow("cross(" + cell + ", 0, 0)", x.cross(cell, 0, 0), REFUSED);
            throwsNow("cross(" + cell + ", -1, -1)", x.cross(cell, -1, -1), REFUSED);
        }
    }
}
