/** Promises 14 to 16 with CALLED of section 2: fields and methods of PLAIN, ROUND and SQUARE. */
final class OwnThingsTest extends Cases {
    private static final int[] NO_OWN_TYPES = {-1, 0, 8, 9, 13, 14, 15, 16, MIN, MAX};

    public static void main(String[] args) {
        run(OwnThingsTest.class);
    }

    // ---- 14: field

    static void promise14ByEachTypeThatItIsOf() {
        for (int type : OWN_TYPES) {
            for (int kind = type; kind <= 12; kind++) {
                works("field(" + type + ", " + kind + ")", x.field(type, kind), 10);
            }
        }
    }

    static void promise14OtherKindsAreCast() {
        for (int type : OWN_TYPES) {
            for (int kind = 0; kind < type; kind++) {
                throwsNow("field(" + type + ", " + kind + ")", x.field(type, kind), CAST);
            }
        }
    }

    static void promise14OfNothingIsNull() {
        for (int type : OWN_TYPES) {
            throwsNow("field(" + type + ", nothing)", x.field(type, EMPTY), NULL);
        }
    }

    static void promise14NoOwnTypeIsRefusedFirst() {
        for (int type : NO_OWN_TYPES) {
            throwsNow("field(" + type + ", 12)", x.field(type, 12), REFUSED);
            throwsNow("field(" + type + ", 0)", x.field(type, 0), REFUSED);
            throwsNow("field(" + type + ", nothing)", x.field(type, EMPTY), REFUSED);
        }
    }

    static void promise14NoCellIsRefused() {
        for (int type : OWN_TYPES) {
            for (int cell : NO_CELLS) {
                throwsNow("field(" + type + ", " + cell + ")", x.field(type, cell), REFUSED);
            }
        }
    }

    // ---- 15: write

    static void promise15TheFieldBecomesAnyInt() {
        for (int type : OWN_TYPES) {
            for (int v : new int[] {0, 1, -1, MIN, MAX}) {
                works("write(" + type + ", 12, " + v + ")", x.write(type, 12, v), 1);
                works("field(12, 12)", x.field(12, 12), v);
            }
        }
    }

    static void promise15ByEachTypeThatItIsOf() {
        for (int type : OWN_TYPES) {
            for (int kind = type; kind <= 12; kind++) {
                works("write(" + type + ", " + kind + ", ..)", x.write(type, kind, type + kind), 1);
                works("field(10, " + kind + ")", x.field(10, kind), type + kind);
            }
        }
    }

    static void promise15IsSeenWhereverTheThingIsHeld() {
        x.move(11, 14);
        makeThings(9, 9, 11);
        works("write(10, 11, 77)", x.write(10, 11, 77), 1);
        works("field(11, 14)", x.field(11, 14), 77);
        x.take(9, 9, 0, 15);
        works("field(11, 15)", x.field(11, 15), 77);
        works("field(10, 10): others stay", x.field(10, 10), 10);
        works("field(12, 12): others stay", x.field(12, 12), 10);
    }

    static void promise15OtherKindsAreCast() {
        for (int type : OWN_TYPES) {
            for (int kind = 0; kind < type; kind++) {
                throwsNow("write(" + type + ", " + kind + ", 5)", x.write(type, kind, 5), CAST);
            }
        }
        works("field(10, 10), as before", x.field(10, 10), 10);
        works("field(11, 11), as before", x.field(11, 11), 10);
    }

    static void promise15OfNothingIsNull() {
        for (int type : OWN_TYPES) {
            throwsNow("write(" + type + ", nothing, 5)", x.write(type, EMPTY, 5), NULL);
        }
        due("same(nothing, 15), as before", x.same(EMPTY, 15), 1);
    }

    static void promise15NoOwnTypeIsRefusedFirst() {
        for (int type : NO_OWN_TYPES) {
            throwsNow("write(" + type + ", 12, 5)", x.write(type, 12, 5), REFUSED);
            throwsNow("write(" + type + ", 0, 5)", x.write(type, 0, 5), REFUSED);
            throwsNow("write(" + type + ", nothing, 5)", x.write(type, EMPTY, 5), REFUSED);
        }
        works("field(12, 12), as before", x.field(12, 12), 10);
    }

    static void promise15NoCellIsRefused() {
        for (int type : OWN_TYPES) {
            for (int cell : NO_CELLS) {
                throwsNow("write(" + type + ", " + cell + ", 5)", x.write(type, cell, 5), REFUSED);
            }
        }
    }

    // ---- 16: call

    /** One method of a new thing with a for FIELD. */
    private static void answers(int which, int kind, int a, int want) {
        x.make(kind, 15, a, 0);
        works("call " + which + " of kind " + kind + " with " + a, x.call(15, which), want);
    }

    private static void throwsWith(int which, int kind, int a, int cause) {
        x.make(kind, 15, a, 0);
        throwsNow("call " + which + " of kind " + kind + " with " + a, x.call(15, which), cause);
        works("field(10, 15), as before", x.field(10, 15), a);
    }

    static void promise16SizeOfAPlain() {
        for (int a : new int[] {0, 1, -1, MIN, MAX}) {
            answers(0, 10, a, a);
        }
    }

    static void promise16SizeOfARound() {
        answers(0, 11, 0, 0);
        answers(0, 11, 3, 6);
        answers(0, 11, -3, -6);
        answers(0, 11, 0x3fffffff, 0x7ffffffe);
        answers(0, 11, 0x40000000, MIN);
        answers(0, 11, -0x40000000, MIN);
        answers(0, 11, -0x40000001, 0x7ffffffe);
        answers(0, 11, MAX, -2);
        answers(0, 11, MIN, 0);
    }

    static void promise16SizeOfASquare() {
        answers(0, 12, 0, 1);
        answers(0, 12, 3, 7);
        answers(0, 12, -3, -5);
        answers(0, 12, 0x3fffffff, MAX);
        answers(0, 12, 0x40000000, MIN + 1);
        answers(0, 12, -0x40000000, MIN + 1);
        answers(0, 12, -0x40000001, MAX);
        answers(0, 12, MAX, -1);
        answers(0, 12, MIN, 1);
    }

    static void promise16TwiceOfAPlainWraps() {
        answers(1, 10, 0, 0);
        answers(1, 10, 7, 14);
        answers(1, 10, -7, -14);
        answers(1, 10, 0x3fffffff, 0x7ffffffe);
        answers(1, 10, 0x40000000, MIN);
        answers(1, 10, MAX, -2);
        answers(1, 10, MIN, 0);
    }

    static void promise16TwiceOfARoundWraps() {
        answers(1, 11, 0, 100);
        answers(1, 11, 7, 142);
        answers(1, 11, -7, 58);
        answers(1, 11, -17, -2);
        answers(1, 11, 357913924, 2147483644);
        answers(1, 11, 357913925, MIN + 2);
        answers(1, 11, MAX, 94);
        answers(1, 11, MIN, 100);
    }

    static void promise16TwiceOfASquareWraps() {
        answers(1, 12, 0, 103);
        answers(1, 12, 7, 145);
        answers(1, 12, -7, 61);
        answers(1, 12, 357913924, 2147483647);
        answers(1, 12, 357913925, MIN + 5);
        answers(1, 12, MAX, 97);
        answers(1, 12, MIN, 103);
    }

    static void promise16MarkOfPlainAndRoundWraps() {
        for (int kind : new int[] {10, 11}) {
            answers(2, kind, 0, 1);
            answers(2, kind, 7, 50);
            answers(2, kind, -1, -6);
            answers(2, kind, 306783378, 2147483647);
            answers(2, kind, 306783379, MIN + 6);
            answers(2, kind, MAX, 0x7ffffffa);
            answers(2, kind, MIN, MIN + 1);
        }
    }

    static void promise16MarkOfASquareWraps() {
        answers(2, 12, 0, 10);
        answers(2, 12, 7, 500);
        answers(2, 12, -1, -60);
        answers(2, 12, 30678337, 2147483600);
        answers(2, 12, 30678338, MIN + 22);
        answers(2, 12, MAX, -60);
        answers(2, 12, MIN, 10);
    }

    static void promise16StepOfEachKindWraps() {
        int[] more = {0, 20, 23};
        for (int at = 0; at < 3; at++) {
            answers(3, 10 + at, 0, 1000 + more[at]);
            answers(3, 10 + at, -1000, more[at]);
            answers(3, 10 + at, MAX - 1000 - more[at], MAX);
            answers(3, 10 + at, MAX - 999 - more[at], MIN);
            answers(3, 10 + at, MAX, MIN + 999 + more[at]);
            answers(3, 10 + at, MIN, MIN + 1000 + more[at]);
        }
    }

    static void promise16KeptIsOfTheSignOfS() {
        answers(4, 10, 0, 0);
        answers(4, 10, 4, 4);
        answers(4, 10, 5, 0);
        answers(4, 10, -4, -4);
        answers(4, 10, -5, 0);
        answers(4, 10, -6, -1);
        answers(4, 10, MAX, 2);
        answers(4, 10, MIN, -3);
        answers(4, 11, 4, 3);
        answers(4, 11, -4, -3);
        answers(4, 11, MAX, -2);
        answers(4, 12, 2, 0);
        answers(4, 12, -4, -2);
        answers(4, 12, MAX, -1);
    }

    static void promise16TroubleIsOwnIfSIsBelow0() {
        answers(5, 10, 0, 0);
        answers(5, 10, 1, 1);
        answers(5, 10, MAX, MAX);
        throwsWith(5, 10, -1, OWN);
        throwsWith(5, 10, MIN, OWN);
        answers(5, 11, 0, 0);
        answers(5, 11, 7, 14);
        throwsWith(5, 11, -1, OWN);
        answers(5, 12, 0, 1);
        throwsWith(5, 12, -1, OWN);
        throwsWith(5, 12, -2, OWN);
    }

    static void promise16TroubleLooksAtSThatWrapped() {
        answers(5, 11, 0x3fffffff, 0x7ffffffe);
        throwsWith(5, 11, 0x40000000, OWN);
        throwsWith(5, 11, MAX, OWN);
        answers(5, 11, MIN, 0);
        answers(5, 12, 0x3fffffff, MAX);
        throwsWith(5, 12, 0x40000000, OWN);
        throwsWith(5, 12, MAX, OWN);
        answers(5, 12, MIN, 1);
    }

    static void promise16DeepIs1000ByACut() {
        for (int kind : OWN_TYPES) {
            answers(6, kind, 1, 1000);
            answers(6, kind, -1, -1000);
            answers(6, kind, 7, 142);
            answers(6, kind, -7, -142);
            answers(6, kind, 1000, 1);
            answers(6, kind, 1001, 0);
            answers(6, kind, -1001, 0);
            answers(6, kind, MAX, 0);
            answers(6, kind, MIN, 0);
        }
    }

    static void promise16DeepBy0IsDivision() {
        for (int kind : OWN_TYPES) {
            throwsWith(6, kind, 0, DIVISION);
        }
    }

    static void promise16LooksAtTheFieldAsItIsNow() {
        works("call(12, 0)", x.call(12, 0), 21);
        x.write(10, 12, -1);
        works("call(12, 0)", x.call(12, 0), -1);
        throwsNow("call(12, 5)", x.call(12, 5), OWN);
        x.write(11, 12, 0);
        throwsNow("call(12, 6)", x.call(12, 6), DIVISION);
    }

    static void promise16ChangesNothing() {
        for (int which = 0; which <= 6; which++) {
            for (int kind : OWN_TYPES) {
                x.call(kind, which);
                works("field(10, " + kind + ")", x.field(10, kind), 10);
            }
        }
    }

    static void promise16ArraysAreCast() {
        for (int which = 0; which <= 6; which++) {
            for (int kind = 0; kind <= 9; kind++) {
                throwsNow("call(" + kind + ", " + which + ")", x.call(kind, which), CAST);
            }
        }
    }

    static void promise16OfNothingIsNull() {
        for (int which = 0; which <= 6; which++) {
            throwsNow("call(nothing, " + which + ")", x.call(EMPTY, which), NULL);
        }
    }

    static void promise16NoMethodIsRefusedFirst() {
        for (int which : new int[] {-1, 7, MIN, MAX}) {
            throwsNow("call(10, " + which + ")", x.call(10, which), REFUSED);
            throwsNow("call(0, " + which + ")", x.call(0, which), REFUSED);
            throwsNow("call(nothing, " + which + ")", x.call(EMPTY, which), REFUSED);
        }
    }

    static void promise16NoCellIsRefused() {
        for (int which = 0; which <= 6; which++) {
            for (int cell : NO_CELLS) {
                throwsNow("call(" + cell + ", " + which + ")", x.call(cell, which), REFUSED);
            }
        }
    }
}
