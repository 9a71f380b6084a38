/** Promise 13 with COPIED of section 2: copies of all, of nothing, within one array, and such that stop in the midst. */
final class CopyTest extends Cases {
    /** i, j and n of which at least one is below 0 or beyond arrays of 4. */
    private static final int[][] NOT_INSIDE = {
        {-1, -1, -1}, {-1, 0, 0}, {0, -1, 0}, {0, 0, -1}, {5, 0, 0}, {0, 5, 0}, {0, 0, 5}, {4, 0, 1}, {0, 4, 1}, {MAX, MAX, MAX},
    };

    public static void main(String[] args) {
        run(CopyTest.class);
    }

    private static void copies(int from, int i, int to, int j, int n) {
        works("copy(" + from + ", " + i + ", " + to + ", " + j + ", " + n + ")", x.copy(from, i, to, j, n), 1);
    }

    private static void fails(int from, int i, int to, int j, int n, int cause) {
        throwsNow("copy(" + from + ", " + i + ", " + to + ", " + j + ", " + n + ")", x.copy(from, i, to, j, n), cause);
    }

    // ---- lengths and indexes

    static void promise13NumbersOfEachKind() {
        for (int kind : NUMBER_TYPES) {
            count(kind, kind, 4, 1);
            x.make(kind, 15, 5, 0);
            copies(kind, 1, 15, 2, 2);
            numbersAre(kind, 15, 0, 0, 2, 3, 0);
            numbersAre(kind, kind, 1, 2, 3, 4);
        }
    }

    static void promise13NumbersOnTheEdgesOfTheirKind() {
        long[] edges = {0x80000000L, Long.MIN_VALUE, 128, 65535, 32768, 0xffc00001L, -1};
        long[] wants = {MIN, Long.MIN_VALUE, -128, 65535, -32768, 0x7fc00000L, 0x7ff8000000000000L};
        for (int kind : NUMBER_TYPES) {
            x.store(kind, kind, 0, edges[kind]);
            x.make(kind, 15, 1, 0);
            copies(kind, 0, 15, 0, 1);
            numbersAre(kind, 15, wants[kind]);
        }
    }

    static void promise13NoElements() {
        count(0, 0, 4, 1);
        x.make(0, 15, 3, 0);
        copies(0, 0, 15, 0, 0);
        copies(0, 2, 15, 1, 0);
        numbersAre(0, 15, 0, 0, 0);
        copies(0, 0, 0, 3, 0);
        numbersAre(0, 0, 1, 2, 3, 4);
    }

    static void promise13NoElementsAtTheLength() {
        x.make(0, 15, 3, 0);
        copies(0, 4, 15, 3, 0);
        copies(0, 4, 15, 0, 0);
        copies(0, 0, 15, 3, 0);
        copies(8, 4, 9, 4, 0);
        copies(7, 4, 7, 4, 0);
    }

    static void promise13NoElementsBeyondTheLength() {
        x.make(0, 15, 3, 0);
        fails(0, 5, 15, 0, 0, INDEX);
        fails(0, 0, 15, 4, 0, INDEX);
        fails(0, MAX, 15, 0, 0, INDEX);
        fails(0, 0, 15, MAX, 0, INDEX);
        fails(9, 5, 8, 0, 0, INDEX);
        fails(9, 0, 8, 5, 0, INDEX);
    }

    static void promise13ArraysOfLength0() {
        x.make(0, 14, 0, 0);
        copies(14, 0, 14, 0, 0);
        copies(14, 0, 0, 4, 0);
        fails(14, 0, 0, 0, 1, INDEX);
        fails(0, 0, 14, 0, 1, INDEX);
        fails(14, 1, 0, 0, 0, INDEX);
    }

    static void promise13AllOf64Elements() {
        x.make(0, 14, 64, 0);
        x.make(0, 15, 64, 0);
        count(0, 14, 64, 1);
        copies(14, 0, 15, 0, 64);
        for (int i : new int[] {0, 1, 31, 32, 62, 63}) {
            works("load(0, 15, " + i + ")", x.load(0, 15, i), 1 + i);
        }
        fails(14, 0, 15, 0, 65, INDEX);
    }

    static void promise13EndsAtTheLengthOfBoth() {
        count(0, 0, 4, 1);
        x.make(0, 15, 3, 0);
        copies(0, 3, 15, 2, 1);
        copies(0, 2, 15, 1, 2);
        numbersAre(0, 15, 0, 3, 4);
        copies(0, 1, 15, 0, 3);
        numbersAre(0, 15, 2, 3, 4);
    }

    static void promise13OneBeyondTheLengthOfEither() {
        count(0, 0, 4, 1);
        x.make(0, 15, 6, 0);
        fails(0, 2, 15, 0, 3, INDEX);
        fails(0, 4, 15, 0, 1, INDEX);
        fails(0, 0, 15, 0, 5, INDEX);
        fails(15, 0, 0, 2, 3, INDEX);
        fails(15, 0, 0, 4, 1, INDEX);
        fails(15, 0, 0, 0, 5, INDEX);
        numbersAre(0, 0, 1, 2, 3, 4);
        numbersAre(0, 15, 0, 0, 0, 0, 0, 0);
    }

    static void promise13BelowZero() {
        count(0, 0, 4, 1);
        x.make(0, 15, 4, 0);
        for (int below : new int[] {-1, -4, MIN}) {
            fails(0, below, 15, 0, 1, INDEX);
            fails(0, 0, 15, below, 1, INDEX);
            fails(0, 0, 15, 0, below, INDEX);
            fails(0, below, 15, 0, 0, INDEX);
            fails(0, 0, 15, below, 0, INDEX);
            fails(0, 4, 15, 4, below, INDEX);
            fails(0, below, 15, below, below, INDEX);
            fails(0, below, 0, below, 1, INDEX);
        }
        numbersAre(0, 15, 0, 0, 0, 0);
    }

    static void promise13SumsBeyondAnInt() {
        count(0, 0, 4, 1);
        x.make(0, 15, 4, 0);
        fails(0, 1, 15, 0, MAX, INDEX);
        fails(0, 0, 15, 1, MAX, INDEX);
        fails(0, 1, 15, 1, MAX, INDEX);
        fails(0, MAX, 15, 0, 1, INDEX);
        fails(0, 0, 15, MAX, 1, INDEX);
        fails(0, MAX, 15, MAX, MAX, INDEX);
        fails(0, MAX, 15, MAX, 2, INDEX);
        fails(0, 0, 15, 0, MAX, INDEX);
        numbersAre(0, 15, 0, 0, 0, 0);
    }

    static void promise13AThrowLeavesAllAsItWas() {
        makeThings(8, 14, 10, 11, 12, 10);
        fails(14, 0, 14, 1, 4, INDEX);
        fails(14, 0, 8, 1, 4, INDEX);
        fails(14, 0, 0, 1, 1, STORE);
        fails(14, 0, EMPTY, 1, 1, NULL);
        fails(14, 0, 16, 1, 1, REFUSED);
        elementsAre(8, 14, 10, 11, 12, 10);
        elementsAre(8, 8, EMPTY, EMPTY, EMPTY, EMPTY);
    }

    // ---- what is looked at, in order

    static void promise13NothingIsNullAheadOfStoreAndIndex() {
        for (int[] at : NOT_INSIDE) {
            x = full();
            for (int kind = 0; kind <= EMPTY; kind++) {
                fails(EMPTY, at[0], kind, at[1], at[2], NULL);
                fails(kind, at[0], EMPTY, at[1], at[2], NULL);
            }
        }
        for (int kind = 0; kind <= EMPTY; kind++) {
            fails(EMPTY, 0, kind, 0, 0, NULL);
            fails(kind, 0, EMPTY, 0, 0, NULL);
        }
    }

    static void promise13OwnThingsAreStoreAheadOfIndex() {
        for (int own : OWN_TYPES) {
            x = full();
            for (int kind = 0; kind <= 12; kind++) {
                fails(own, 0, kind, 0, 0, STORE);
                fails(kind, 0, own, 0, 0, STORE);
            }
            for (int[] at : NOT_INSIDE) {
                fails(own, at[0], own, at[1], at[2], STORE);
                fails(own, at[0], 0, at[1], at[2], STORE);
                fails(0, at[0], own, at[1], at[2], STORE);
                fails(8, at[0], own, at[1], at[2], STORE);
            }
        }
    }

    static void promise13UnlikeKindsAreStoreAheadOfIndex() {
        for (int from = 0; from <= 9; from++) {
            x = full();
            for (int to = 0; to <= 9; to++) {
                boolean fits = from == to || from >= 7 && to >= 7;
                for (int[] at : NOT_INSIDE) {
                    fails(from, at[0], to, at[1], at[2], fits ? INDEX : STORE);
                }
            }
        }
    }

    static void promise13UnlikeKindsAreStoreEvenOfNoElements() {
        for (int from = 0; from <= 9; from++) {
            for (int to = 0; to <= 9; to++) {
                if (from == to || from >= 7 && to >= 7) {
                    copies(from, 0, to, 0, 0);
                } else {
                    fails(from, 0, to, 0, 0, STORE);
                }
            }
        }
    }

    static void promise13IndexIsAheadOfTheStoreOfAnElement() {
        makeThings(8, 14, 10, 10, 10, 10);
        fails(14, 0, 9, 0, 5, INDEX);
        fails(14, 1, 9, 0, 4, INDEX);
        fails(14, 0, 9, 1, 4, INDEX);
        fails(14, 0, 9, -1, 1, INDEX);
        fails(7, 0, 9, 0, 5, INDEX);
    }

    static void promise13NoCellIsRefusedFirst() {
        for (int cell : NO_CELLS) {
            fails(cell, 0, 0, 0, 0, REFUSED);
            fails(0, 0, cell, 0, 0, REFUSED);
            fails(cell, -1, EMPTY, -1, -1, REFUSED);
            fails(EMPTY, -1, cell, -1, -1, REFUSED);
            fails(10, 0, cell, 0, 0, REFUSED);
            fails(cell, 0, 10, 0, 0, REFUSED);
        }
    }

    // ---- the same thing

    static void promise13NumbersUpwardWithinOneArray() {
        for (int kind : NUMBER_TYPES) {
            count(kind, kind, 4, 1);
            copies(kind, 0, kind, 1, 3);
            numbersAre(kind, kind, 1, 1, 2, 3);
        }
    }

    static void promise13NumbersDownwardWithinOneArray() {
        for (int kind : NUMBER_TYPES) {
            count(kind, kind, 4, 1);
            copies(kind, 1, kind, 0, 3);
            numbersAre(kind, kind, 2, 3, 4, 4);
        }
    }

    static void promise13NumbersOntoThemselves() {
        count(0, 0, 4, 1);
        copies(0, 0, 0, 0, 4);
        copies(0, 2, 0, 2, 2);
        numbersAre(0, 0, 1, 2, 3, 4);
    }

    static void promise13NumbersApartWithinOneArray() {
        count(0, 0, 4, 1);
        copies(0, 0, 0, 2, 2);
        numbersAre(0, 0, 1, 2, 1, 2);
        count(0, 0, 4, 1);
        copies(0, 2, 0, 0, 2);
        numbersAre(0, 0, 3, 4, 3, 4);
    }

    static void promise13NumbersWithinOneArrayThatTwoCellsHold() {
        x.move(0, 15);
        count(0, 0, 4, 1);
        copies(0, 0, 15, 1, 3);
        numbersAre(0, 0, 1, 1, 2, 3);
        count(0, 0, 4, 1);
        copies(15, 1, 0, 0, 3);
        numbersAre(0, 15, 2, 3, 4, 4);
    }

    static void promise13ThingsUpwardWithinOneArray() {
        makeThings(8, 8, 10, 11, 12, EMPTY);
        copies(8, 0, 8, 1, 3);
        elementsAre(8, 8, 10, 10, 11, 12);
        makeThings(9, 9, 11, 12, EMPTY, EMPTY);
        copies(9, 0, 9, 1, 3);
        elementsAre(9, 9, 11, 11, 12, EMPTY);
    }

    static void promise13ThingsDownwardWithinOneArray() {
        makeThings(8, 8, EMPTY, 10, 11, 12);
        copies(8, 1, 8, 0, 3);
        elementsAre(8, 8, 10, 11, 12, 12);
    }

    static void promise13ThingsWithinOneArrayThatTwoCellsHold() {
        makeThings(8, 8, 10, 11, 12, EMPTY);
        x.move(8, 14);
        copies(8, 0, 14, 1, 3);
        elementsAre(8, 8, 10, 10, 11, 12);
        copies(14, 1, 8, 0, 3);
        elementsAre(8, 14, 10, 11, 12, 12);
    }

    static void promise13RowsWithinOneArrayInBothDirections() {
        for (int i = 0; i < 4; i++) {
            x.take(7, 7, i, 15);
            x.store(0, 15, 0, 1 + i);
        }
        copies(7, 0, 7, 1, 3);
        rowsBegin(7, 1, 1, 2, 3);
        copies(7, 1, 7, 0, 3);
        rowsBegin(7, 1, 2, 3, 3);
    }

    private static void rowsBegin(int cell, int... wants) {
        for (int i = 0; i < wants.length; i++) {
            works("cross(" + cell + ", " + i + ", 0)", x.cross(cell, i, 0), wants[i]);
        }
    }

    static void promise13ARowThatIsCopiedIsTheSameRow() {
        x.make(7, 14, 2, 1);
        copies(7, 3, 14, 0, 1);
        x.take(7, 7, 3, 15);
        x.take(7, 14, 0, 13);
        due("same(15, 13)", x.same(15, 13), 1);
        works("cross(14, 0, 2): as long as it was", x.cross(14, 0, 2), 0);
        throwsNow("cross(14, 1, 1): the other row stays", x.cross(14, 1, 1), INDEX);
    }

    // ---- one by one

    static void promise13RoundsIntoPlains() {
        makeThings(9, 9, 11, 12, EMPTY, 12);
        copies(9, 0, 8, 0, 4);
        elementsAre(8, 8, 11, 12, EMPTY, 12);
    }

    static void promise13PlainsIntoPlains() {
        makeThings(8, 14, 12, 11, 10, EMPTY);
        copies(14, 0, 8, 0, 4);
        elementsAre(8, 8, 12, 11, 10, EMPTY);
        elementsAre(8, 14, 12, 11, 10, EMPTY);
    }

    static void promise13PlainsThatAreAllRoundsIntoRounds() {
        makeThings(8, 14, 12, 11, EMPTY, 12);
        copies(14, 0, 9, 0, 4);
        elementsAre(9, 9, 12, 11, EMPTY, 12);
    }

    static void promise13StopsAtTheFirst() {
        makeThings(8, 14, 10, 11, 12, 11);
        fails(14, 0, 9, 0, 4, STORE);
        elementsAre(9, 9, EMPTY, EMPTY, EMPTY, EMPTY);
    }

    static void promise13StopsInTheMidst() {
        makeThings(8, 14, 11, EMPTY, 10, 12);
        makeThings(9, 9, 12, 12, 12, 12);
        fails(14, 0, 9, 0, 4, STORE);
        elementsAre(9, 9, 11, EMPTY, 12, 12);
        elementsAre(8, 14, 11, EMPTY, 10, 12);
    }

    static void promise13StopsAtTheLast() {
        makeThings(8, 14, 11, 12, 11, 10);
        fails(14, 0, 9, 0, 4, STORE);
        elementsAre(9, 9, 11, 12, 11, EMPTY);
    }

    static void promise13StopsAtTheFirstOfTwo() {
        makeThings(8, 14, 11, 10, 12, 10);
        fails(14, 0, 9, 0, 4, STORE);
        elementsAre(9, 9, 11, EMPTY, EMPTY, EMPTY);
        due("thrown(5): one stop, one throw", x.thrown(STORE), 1);
    }

    static void promise13StopsBehindAnOffset() {
        makeThings(8, 14, 10, 11, 12, 10);
        makeThings(9, 13, 12, 12, 12, 12, 12, 12);
        fails(14, 1, 13, 2, 3, STORE);
        elementsAre(9, 13, 12, 12, 11, 12, 12, 12);
    }

    static void promise13ElementsBeyondThoseCopiedAreNotLookedAt() {
        makeThings(8, 14, 10, 11, 12, 10);
        copies(14, 1, 9, 1, 2);
        elementsAre(9, 9, EMPTY, 11, 12, EMPTY);
        copies(14, 0, 9, 4, 0);
        copies(14, 4, 9, 0, 0);
    }

    static void promise13NothingPassesBetweenRowsAndOwnThings() {
        x.make(7, 14, 2, 1);
        copies(8, 0, 14, 0, 2);
        throwsNow("cross(14, 0, 0)", x.cross(14, 0, 0), NULL);
        throwsNow("cross(14, 1, 0)", x.cross(14, 1, 0), NULL);
        makeThings(9, 9, 11, 12, 11, 12);
        makeThings(8, 8, 10, 11, 10, 12);
        copies(14, 0, 9, 1, 2);
        copies(14, 0, 8, 2, 2);
        elementsAre(9, 9, 11, EMPTY, EMPTY, 12);
        elementsAre(8, 8, 10, 11, EMPTY, EMPTY);
    }

    static void promise13RowsAmongOwnThingsStop() {
        x.put(7, 7, 0, EMPTY);
        makeThings(9, 9, 11, 12, 11, 12);
        makeThings(8, 8, 10, 11, 10, 12);
        fails(7, 0, 8, 1, 2, STORE);
        fails(7, 0, 9, 1, 2, STORE);
        fails(7, 1, 9, 0, 1, STORE);
        elementsAre(8, 8, 10, EMPTY, 10, 12);
        elementsAre(9, 9, 11, EMPTY, 11, 12);
    }

    static void promise13OwnThingsAmongRowsStop() {
        makeThings(9, 9, EMPTY, 12, EMPTY, EMPTY);
        makeThings(8, 8, EMPTY, EMPTY, 10, EMPTY);
        fails(9, 0, 7, 0, 4, STORE);
        throwsNow("cross(7, 0, 0): the nothing before it", x.cross(7, 0, 0), NULL);
        works("cross(7, 1, 0): the row stays", x.cross(7, 1, 0), 0);
        fails(8, 0, 7, 1, 3, STORE);
        throwsNow("cross(7, 2, 0)", x.cross(7, 2, 0), NULL);
        works("cross(7, 3, 0): the row stays", x.cross(7, 3, 0), 0);
        fails(8, 2, 7, 3, 1, STORE);
        works("cross(7, 3, 0)", x.cross(7, 3, 0), 0);
    }

    static void promise13RowsIntoOtherRows() {
        x.make(7, 14, 4, 1);
        x.put(7, 14, 1, EMPTY);
        copies(14, 0, 7, 1, 2);
        throwsNow("cross(7, 1, 1)", x.cross(7, 1, 1), INDEX);
        throwsNow("cross(7, 2, 0)", x.cross(7, 2, 0), NULL);
        works("cross(7, 0, 2)", x.cross(7, 0, 2), 0);
        works("cross(7, 3, 2)", x.cross(7, 3, 2), 0);
    }

    static void promise13AThingInBothArraysIsTheSameOne() {
        makeThings(8, 8, 11, 11, 11, 11);
        copies(8, 0, 9, 0, 4);
        elementsAre(9, 9, 11, 11, 11, 11);
        x.write(11, 11, 77);
        x.take(9, 9, 3, 15);
        works("field(11, 15)", x.field(11, 15), 77);
    }
}
