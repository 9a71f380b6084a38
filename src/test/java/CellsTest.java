/** Promises 1 to 7 with section 1 of the terms: cells, kinds, types and lengths. */
final class CellsTest extends Cases {
    private static final int[] NO_KINDS = {-1, 13, MIN, MAX};
    private static final int[] ARRAY_TYPES = {0, 1, 2, 3, 4, 5, 6, 7, 8, 9, 15};
    /** By type: the kinds that are of it. */
    private static final int[][] KINDS_OF_TYPES = {
        {0}, {1}, {2}, {3}, {4}, {5}, {6}, {7}, {8, 9}, {9}, {10, 11, 12}, {11, 12}, {12}, {10, 11, 12}, {11, 12}, {8, 9},
    };

    public static void main(String[] args) {
        run(CellsTest.class);
    }

    // ---- 1: a new object

    static void promise01AllCellsHoldNothing() {
        x = new ThrowModels();
        for (int cell = 0; cell < 16; cell++) {
            due("same(" + cell + ", 0)", x.same(cell, 0), 1);
            for (int type = 0; type < 16; type++) {
                due("is(" + cell + ", " + type + ")", x.is(cell, type), 0);
            }
            throwsNow("length(0, " + cell + ")", x.length(0, cell), NULL);
            throwsNow("field(10, " + cell + ")", x.field(10, cell), NULL);
        }
    }

    static void promise01NothingWasThrown() {
        x = new ThrowModels();
        due("latest()", x.latest(), 0);
        due("trace()", x.trace(), 0);
        for (int what = 0; what <= 9; what++) {
            due("thrown(" + what + ")", x.thrown(what), 0);
        }
    }

    static void promise01NewObjectsShareNothingWithOthers() {
        ThrowModels other = new ThrowModels();
        x.pass(0, EMPTY, 0);
        due("latest() of the other", other.latest(), 0);
        due("thrown(1) of the other", other.thrown(NULL), 0);
        due("trace() of the other", other.trace(), 0);
        due("is(0, 0) of the other", other.is(0, 0), 0);
        due("is(0, 0)", x.is(0, 0), 1);
    }

    // ---- 2: make

    static void promise02EveryKindFrom0To12IsMade() {
        x = new ThrowModels();
        for (int kind = 0; kind <= 12; kind++) {
            works("make(" + kind + ", 0, 1, 1)", x.make(kind, 0, 1, 1), 1);
            due("is(0, " + kind + ")", x.is(0, kind), 1);
        }
    }

    static void promise02KindsBelow0AndAbove12AreRefused() {
        for (int kind : NO_KINDS) {
            throwsNow("make(" + kind + ", 0, 1, 1)", x.make(kind, 0, 1, 1), REFUSED);
        }
        numbersAre(0, 0, 0, 0, 0, 0);
    }

    static void promise02TheFirstAndTheLastCellAreCells() {
        works("make(1, 0, 2, 0)", x.make(1, 0, 2, 0), 1);
        works("make(2, 15, 3, 0)", x.make(2, 15, 3, 0), 1);
        works("length(1, 0)", x.length(1, 0), 2);
        works("length(2, 15)", x.length(2, 15), 3);
    }

    static void promise02CellsBelow0AndAbove15AreRefused() {
        for (int cell : NO_CELLS) {
            for (int kind = 0; kind <= 12; kind++) {
                throwsNow("make(" + kind + ", " + cell + ", 1, 1)", x.make(kind, cell, 1, 1), REFUSED);
            }
        }
    }

    static void promise02ArraysOfLength0() {
        for (int kind = 0; kind <= 9; kind++) {
            works("make(" + kind + ", 15, 0, 0)", x.make(kind, 15, 0, 0), 1);
            works("length(" + kind + ", 15)", x.length(kind, 15), 0);
        }
    }

    static void promise02ArraysOfLength1() {
        for (int kind = 0; kind <= 9; kind++) {
            works("make(" + kind + ", 15, 1, 1)", x.make(kind, 15, 1, 1), 1);
            works("length(" + kind + ", 15)", x.length(kind, 15), 1);
        }
    }

    static void promise02ArraysOfLength64() {
        for (int kind = 0; kind <= 9; kind++) {
            works("make(" + kind + ", 15, 64, 64)", x.make(kind, 15, 64, 64), 1);
            works("length(" + kind + ", 15)", x.length(kind, 15), 64);
        }
    }

    static void promise02LengthsAbove64AreRefused() {
        for (int kind = 0; kind <= 9; kind++) {
            throwsNow("make(" + kind + ", 0, 65, 1)", x.make(kind, 0, 65, 1), REFUSED);
            throwsNow("make(" + kind + ", 0, MAX, 1)", x.make(kind, 0, MAX, 1), REFUSED);
        }
        numbersAre(0, 0, 0, 0, 0, 0);
    }

    static void promise02LengthsBelow0AreOfNoSize() {
        for (int kind = 0; kind <= 9; kind++) {
            throwsNow("make(" + kind + ", 0, -1, 1)", x.make(kind, 0, -1, 1), SIZE);
            throwsNow("make(" + kind + ", 0, MIN, 1)", x.make(kind, 0, MIN, 1), SIZE);
        }
        numbersAre(0, 0, 0, 0, 0, 0);
    }

    static void promise02RowsOfLength0() {
        works("make(7, 15, 2, 0)", x.make(7, 15, 2, 0), 1);
        works("take(7, 15, 1, 14)", x.take(7, 15, 1, 14), 1);
        works("length(0, 14)", x.length(0, 14), 0);
        throwsNow("cross(15, 1, 0)", x.cross(15, 1, 0), INDEX);
    }

    static void promise02RowsOfLength64() {
        works("make(7, 15, 64, 64)", x.make(7, 15, 64, 64), 1);
        for (int i : new int[] {0, 63}) {
            works("take(7, 15, " + i + ", 14)", x.take(7, 15, i, 14), 1);
            works("length(0, 14)", x.length(0, 14), 64);
            works("cross(15, " + i + ", 63)", x.cross(15, i, 63), 0);
            throwsNow("cross(15, " + i + ", 64)", x.cross(15, i, 64), INDEX);
        }
    }

    static void promise02RowsAbove64AreRefused() {
        throwsNow("make(7, 7, 2, 65)", x.make(7, 7, 2, 65), REFUSED);
        throwsNow("make(7, 7, 0, 65): even of no rows", x.make(7, 7, 0, 65), REFUSED);
        throwsNow("make(7, 7, 2, MAX)", x.make(7, 7, 2, MAX), REFUSED);
        works("length(7, 7), as before", x.length(7, 7), 4);
    }

    static void promise02RowsBelow0AreOfNoSize() {
        throwsNow("make(7, 7, 2, -1)", x.make(7, 7, 2, -1), SIZE);
        throwsNow("make(7, 7, 0, -1): even of no rows", x.make(7, 7, 0, -1), SIZE);
        throwsNow("make(7, 7, -1, -1)", x.make(7, 7, -1, -1), SIZE);
        throwsNow("make(7, 7, 2, MIN)", x.make(7, 7, 2, MIN), SIZE);
        works("length(7, 7), as before", x.length(7, 7), 4);
    }

    static void promise02RefusedIsAheadOfSize() {
        throwsNow("make(7, 7, -1, 65)", x.make(7, 7, -1, 65), REFUSED);
        throwsNow("make(7, 7, 65, -1)", x.make(7, 7, 65, -1), REFUSED);
        throwsNow("make(0, 16, -1, 0)", x.make(0, 16, -1, 0), REFUSED);
        throwsNow("make(13, 0, -1, 0)", x.make(13, 0, -1, 0), REFUSED);
    }

    static void promise02MCountsForRowsAlone() {
        for (int m : new int[] {-1, 65, MIN, MAX}) {
            for (int kind = 0; kind <= 12; kind++) {
                if (kind != 7) {
                    works("make(" + kind + ", 15, 2, " + m + ")", x.make(kind, 15, 2, m), 1);
                }
            }
        }
    }

    static void promise02AFieldIsAnyInt() {
        for (int kind : OWN_TYPES) {
            for (int n : new int[] {0, 1, -1, 64, 65, MIN, MAX}) {
                works("make(" + kind + ", 15, " + n + ", 0)", x.make(kind, 15, n, 0), 1);
                works("field(" + kind + ", 15)", x.field(kind, 15), n);
            }
        }
    }

    static void promise02NumbersAre0AtFirst() {
        for (int kind : NUMBER_TYPES) {
            numbersAre(kind, kind, 0, 0, 0, 0);
        }
        x.store(0, 0, 0, 7);
        x.make(0, 0, 4, 0);
        numbersAre(0, 0, 0, 0, 0, 0);
    }

    static void promise02RowsAreArraysOfIntsOfTheirOwn() {
        works("take(7, 7, 0, 13)", x.take(7, 7, 0, 13), 1);
        works("take(7, 7, 3, 14)", x.take(7, 7, 3, 14), 1);
        due("the first row is of TYPE 0", x.is(13, 0), 1);
        due("the first and the last are not the same", x.same(13, 14), 0);
        x.store(0, 13, 2, 5);
        works("cross(7, 0, 2)", x.cross(7, 0, 2), 5);
        numbersAre(0, 14, 0, 0, 0);
    }

    static void promise02PlainsAndRoundsAreOfNothingAtFirst() {
        elementsAre(8, 8, EMPTY, EMPTY, EMPTY, EMPTY);
        elementsAre(9, 9, EMPTY, EMPTY, EMPTY, EMPTY);
    }

    static void promise02WhatTheCellHeldStaysInOtherCells() {
        x.store(0, 0, 0, 5);
        x.move(0, 15);
        works("make(0, 0, 4, 0)", x.make(0, 0, 4, 0), 1);
        due("same(0, 15)", x.same(0, 15), 0);
        numbersAre(0, 15, 5, 0, 0, 0);
    }

    static void promise02AllSixteenCellsHoldTheirOwn() {
        x = new ThrowModels();
        for (int cell = 0; cell < 16; cell++) {
            works("make(11, " + cell + ")", x.make(11, cell, 100 + cell, 0), 1);
        }
        for (int cell = 0; cell < 16; cell++) {
            works("field(11, " + cell + ")", x.field(11, cell), 100 + cell);
            for (int other = 0; other < 16; other++) {
                due("same(" + cell + ", " + other + ")", x.same(cell, other), cell == other ? 1 : 0);
            }
        }
        works("make once more, into a cell in use", x.make(10, 7, 5, 0), 1);
        works("field(10, 7)", x.field(10, 7), 5);
    }

    static void promise02FiveHundredAndTwelveOfTheLargest() {
        x = new ThrowModels();
        for (int call = 0; call < 512; call++) {
            due("make(7, " + call % 16 + ", 64, 64)", x.make(7, call % 16, 64, 64), 1);
        }
    }

    // ---- 3: move

    static void promise03SeveralCellsHoldTheSameThing() {
        for (int kind = 0; kind <= 12; kind++) {
            works("move(" + kind + ", 15)", x.move(kind, 15), 1);
            due("same(" + kind + ", 15)", x.same(kind, 15), 1);
            due("is(15, " + kind + ")", x.is(15, kind), 1);
        }
    }

    static void promise03AllSixteenCellsHoldOneThing() {
        x.store(0, 0, 0, 5);
        for (int cell = 1; cell < 16; cell++) {
            works("move(0, " + cell + ")", x.move(0, cell), 1);
        }
        for (int cell = 0; cell < 16; cell++) {
            works("load(0, " + cell + ", 0)", x.load(0, cell, 0), 5 + cell);
            works("store(0, " + cell + ", 0)", x.store(0, cell, 0, 6 + cell), 1);
        }
        works("move(-1, 0)", x.move(-1, 0), 1);
        works("load(0, 15, 0): the others hold it still", x.load(0, 15, 0), 21);
    }

    static void promise03FromMinus1IsNothing() {
        works("move(-1, 5)", x.move(-1, 5), 1);
        due("same(5, nothing)", x.same(5, EMPTY), 1);
        works("move(-1, nothing)", x.move(-1, EMPTY), 1);
        due("same(5, nothing)", x.same(5, EMPTY), 1);
    }

    static void promise03FromACellThatHoldsNothing() {
        works("move(nothing, 5)", x.move(EMPTY, 5), 1);
        due("same(5, nothing)", x.same(5, EMPTY), 1);
        throwsNow("length(5, 5)", x.length(5, 5), NULL);
    }

    static void promise03FromACellToItself() {
        works("move(5, 5)", x.move(5, 5), 1);
        works("length(5, 5)", x.length(5, 5), 4);
    }

    static void promise03TheFirstAndTheLastCell() {
        works("move(0, 15)", x.move(0, 15), 1);
        works("move(15, 1)", x.move(15, 1), 1);
        works("move(-1, 0)", x.move(-1, 0), 1);
        works("length(0, 1)", x.length(0, 1), 4);
        works("length(0, 15)", x.length(0, 15), 4);
    }

    static void promise03OtherCellsAreRefused() {
        for (int cell : new int[] {-2, 16, MIN, MAX}) {
            throwsNow("move(" + cell + ", 5)", x.move(cell, 5), REFUSED);
        }
        for (int cell : NO_CELLS) {
            throwsNow("move(5, " + cell + ")", x.move(5, cell), REFUSED);
            throwsNow("move(-1, " + cell + ")", x.move(-1, cell), REFUSED);
        }
        works("length(5, 5), as before", x.length(5, 5), 4);
    }

    // ---- 4: twin

    static void promise04ATwinIsAlikeButAnother() {
        count(0, 0, 4, 7);
        works("twin(0, 15)", x.twin(0, 15), 1);
        due("same(0, 15)", x.same(0, 15), 0);
        due("is(15, 0)", x.is(15, 0), 1);
        numbersAre(0, 15, 7, 8, 9, 10);
        x.store(0, 15, 0, -1);
        x.store(0, 0, 3, -2);
        numbersAre(0, 0, 7, 8, 9, -2);
        numbersAre(0, 15, -1, 8, 9, 10);
    }

    static void promise04TheLowestAndTheHighestInt() {
        x.store(0, 0, 0, MIN);
        x.store(0, 0, 3, MAX);
        works("twin(0, 15)", x.twin(0, 15), 1);
        numbersAre(0, 15, MIN, 0, 0, MAX);
    }

    static void promise04OfLengths0And64() {
        for (int n : new int[] {0, 64}) {
            x.make(0, 0, n, 0);
            count(0, 0, n, 1);
            works("twin(0, 15)", x.twin(0, 15), 1);
            works("length(0, 15)", x.length(0, 15), n);
            due("same(0, 15)", x.same(0, 15), 0);
        }
        works("load(0, 15, 63)", x.load(0, 15, 63), 64);
    }

    static void promise04IntoItsOwnCell() {
        count(0, 0, 4, 1);
        x.move(0, 15);
        works("twin(0, 0)", x.twin(0, 0), 1);
        due("same(0, 15)", x.same(0, 15), 0);
        numbersAre(0, 0, 1, 2, 3, 4);
    }

    static void promise04OfARow() {
        x.take(7, 7, 1, 15);
        works("twin(15, 14)", x.twin(15, 14), 1);
        x.store(0, 14, 0, 9);
        works("cross(7, 1, 0), as before", x.cross(7, 1, 0), 0);
    }

    static void promise04OtherKindsAreCast() {
        for (int kind = 1; kind <= 12; kind++) {
            throwsNow("twin(" + kind + ", 0)", x.twin(kind, 0), CAST);
        }
        works("length(0, 0), as before", x.length(0, 0), 4);
    }

    static void promise04OfNothingIsNull() {
        throwsNow("twin(nothing, 0)", x.twin(EMPTY, 0), NULL);
        works("length(0, 0), as before", x.length(0, 0), 4);
    }

    static void promise04NoCellIsRefusedFirst() {
        for (int cell : NO_CELLS) {
            throwsNow("twin(" + cell + ", 0)", x.twin(cell, 0), REFUSED);
            throwsNow("twin(0, " + cell + ")", x.twin(0, cell), REFUSED);
            throwsNow("twin(1, " + cell + "): ahead of CAST", x.twin(1, cell), REFUSED);
            throwsNow("twin(nothing, " + cell + "): ahead of NULL", x.twin(EMPTY, cell), REFUSED);
        }
    }

    // ---- 5: is

    static void promise05WhatIsOfEachType() {
        for (int type = 0; type < 16; type++) {
            for (int kind = 0; kind <= 12; kind++) {
                due("is(" + kind + ", " + type + ")", x.is(kind, type), isAmong(kind, KINDS_OF_TYPES[type]) ? 1 : 0);
            }
        }
    }

    private static boolean isAmong(int number, int[] numbers) {
        for (int one : numbers) {
            if (one == number) {
                return true;
            }
        }
        return false;
    }

    static void promise05NothingIsOfNoType() {
        for (int type = 0; type < 16; type++) {
            due("is(nothing, " + type + ")", x.is(EMPTY, type), 0);
        }
    }

    static void promise05ARowIsAnArrayOfInts() {
        x.take(7, 7, 0, 15);
        for (int type = 0; type < 16; type++) {
            due("is(a row, " + type + ")", x.is(15, type), type == 0 ? 1 : 0);
        }
    }

    static void promise05NoCellAndNoTypeAreMinus1() {
        for (int beyond : NO_CELLS) {
            due("is(" + beyond + ", 0)", x.is(beyond, 0), -1);
            due("is(0, " + beyond + ")", x.is(0, beyond), -1);
            due("is(nothing, " + beyond + ")", x.is(EMPTY, beyond), -1);
            due("is(" + beyond + ", " + beyond + ")", x.is(beyond, beyond), -1);
        }
    }

    static void promise05IsNoAct() {
        x.length(0, 1);
        x.is(0, 0);
        x.is(0, 16);
        x.is(16, 0);
        due("latest()", x.latest(), CAST);
        due("thrown(8)", x.thrown(REFUSED), 0);
    }

    // ---- 6: same

    static void promise06ThingsThatAreAlikeAreNotTheSame() {
        for (int kind = 0; kind <= 12; kind++) {
            x.make(kind, 15, kind >= 10 ? 10 : 4, 3);
            due("same(" + kind + ", one alike)", x.same(kind, 15), 0);
            due("same(one alike, " + kind + ")", x.same(15, kind), 0);
        }
        x.make(0, 14, 0, 0);
        x.make(0, 15, 0, 0);
        due("same(two of length 0)", x.same(14, 15), 0);
    }

    static void promise06ACellAndItself() {
        for (int cell = 0; cell < 16; cell++) {
            due("same(" + cell + ", " + cell + ")", x.same(cell, cell), 1);
        }
    }

    static void promise06NothingInBothOrInOne() {
        due("same(13, 15): nothing both", x.same(13, 15), 1);
        for (int cell = 0; cell < EMPTY; cell++) {
            due("same(" + cell + ", nothing)", x.same(cell, EMPTY), 0);
            due("same(nothing, " + cell + ")", x.same(EMPTY, cell), 0);
        }
    }

    static void promise06NoCellIsMinus1() {
        for (int cell : NO_CELLS) {
            due("same(" + cell + ", 0)", x.same(cell, 0), -1);
            due("same(0, " + cell + ")", x.same(0, cell), -1);
            due("same(" + cell + ", " + cell + ")", x.same(cell, cell), -1);
        }
    }

    static void promise06IsNoAct() {
        x.length(0, 1);
        x.same(0, 0);
        x.same(0, 16);
        x.same(-1, 0);
        due("latest()", x.latest(), CAST);
        due("thrown(8)", x.thrown(REFUSED), 0);
    }

    // ---- 7: length

    static void promise07ByEachTypeThatItIsOf() {
        for (int type : ARRAY_TYPES) {
            for (int kind : KINDS_OF_TYPES[type]) {
                works("length(" + type + ", " + kind + ")", x.length(type, kind), 4);
            }
        }
    }

    static void promise07OtherKindsAreCast() {
        for (int type : ARRAY_TYPES) {
            for (int kind = 0; kind <= 12; kind++) {
                if (!isAmong(kind, KINDS_OF_TYPES[type])) {
                    throwsNow("length(" + type + ", " + kind + ")", x.length(type, kind), CAST);
                }
            }
        }
    }

    static void promise07OfNothingIsNull() {
        for (int type : ARRAY_TYPES) {
            throwsNow("length(" + type + ", nothing)", x.length(type, EMPTY), NULL);
        }
    }

    static void promise07Lengths0And1And63And64() {
        for (int n : new int[] {0, 1, 63, 64}) {
            for (int type = 0; type <= 9; type++) {
                x.make(type, 15, n, 2);
                works("length(" + type + ", 15)", x.length(type, 15), n);
            }
        }
    }

    static void promise07TypesOfNoArrayAreRefusedFirst() {
        for (int type : new int[] {-1, 10, 11, 12, 13, 14, 16, MIN, MAX}) {
            throwsNow("length(" + type + ", 0)", x.length(type, 0), REFUSED);
            throwsNow("length(" + type + ", 12)", x.length(type, 12), REFUSED);
            throwsNow("length(" + type + ", nothing)", x.length(type, EMPTY), REFUSED);
        }
    }

    static void promise07NoCellIsRefused() {
        for (int type : ARRAY_TYPES) {
            for (int cell : NO_CELLS) {
                throwsNow("length(" + type + ", " + cell + ")", x.length(type, cell), REFUSED);
            }
        }
    }
}
