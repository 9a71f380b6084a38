import java.util.HashSet;
import java.util.List;
import java.util.Set;

/**
 * Promises 23 to 26: throws that pass through frames, and what is told of throws; with those sentences of section 1 of
 * the terms that hold for every act.
 */
final class FramesTest extends Cases {
    private static final int TRACE_OF_A_LOAD = 1 + 2 + 8 + 64;
    private static final int TRACE_OF_A_CAST = 1 + 4 + 8 + 64;
    private static final int TRACE_OF_AN_INDEX = 1 + 8 + 16;
    private static final int TRACE_OF_NULL = 1 + 8 + 32;
    private static final int AFTER_A_CAST = -104;
    private static final int AFTER_AN_INDEX = -102;

    public static void main(String[] args) {
        run(FramesTest.class);
    }

    // ---- 23: pass

    private static void passes(int type, int cell, int i, long want, int wantedTrace) {
        String call = "pass(" + type + ", " + cell + ", " + i + ")";
        works(call, x.pass(type, cell, i), want);
        due("trace() behind " + call, x.trace(), wantedTrace);
    }

    static void promise23LoadsTheFirstAndTheLastElement() {
        for (int type : NUMBER_TYPES) {
            count(type, type, 4, 20);
            passes(type, type, 0, 20, TRACE_OF_A_LOAD);
            passes(type, type, 3, 23, TRACE_OF_A_LOAD);
        }
    }

    static void promise23LoadsAsLoadDoes() {
        x.store(2, 2, 0, 128);
        passes(2, 2, 0, -128, TRACE_OF_A_LOAD);
        x.store(3, 3, 0, -1);
        passes(3, 3, 0, 65535, TRACE_OF_A_LOAD);
        x.store(5, 5, 0, 0xff800000L);
        passes(5, 5, 0, -0x800000L, TRACE_OF_A_LOAD);
        x.store(5, 5, 0, -1);
        passes(5, 5, 0, 0x7fc00000L, TRACE_OF_A_LOAD);
        x.store(6, 6, 0, -1);
        passes(6, 6, 0, 0x7ff8000000000000L, TRACE_OF_A_LOAD);
        x.store(1, 1, 0, Long.MIN_VALUE);
        passes(1, 1, 0, Long.MIN_VALUE, TRACE_OF_A_LOAD);
    }

    static void promise23ANumberThatLooksLikeACaughtThrow() {
        x.store(0, 0, 0, AFTER_A_CAST);
        passes(0, 0, 0, AFTER_A_CAST, TRACE_OF_A_LOAD);
        x.store(0, 0, 0, AFTER_AN_INDEX);
        passes(0, 0, 0, AFTER_AN_INDEX, TRACE_OF_A_LOAD);
    }

    static void promise23TheMiddleFrameCatchesCast() {
        for (int type : NUMBER_TYPES) {
            for (int kind = 0; kind <= 12; kind++) {
                if (kind != type) {
                    passes(type, kind, 0, AFTER_A_CAST, TRACE_OF_A_CAST);
                }
            }
        }
    }

    static void promise23CastIsAheadOfIndex() {
        for (int type : NUMBER_TYPES) {
            passes(type, 8, -1, AFTER_A_CAST, TRACE_OF_A_CAST);
            passes(type, 12, 4, AFTER_A_CAST, TRACE_OF_A_CAST);
        }
    }

    static void promise23TheOuterFrameCatchesIndex() {
        for (int type : NUMBER_TYPES) {
            for (int i : NO_INDEX_OF_4) {
                passes(type, type, i, AFTER_AN_INDEX, TRACE_OF_AN_INDEX);
            }
        }
    }

    static void promise23OfLengths0And64() {
        for (int type : NUMBER_TYPES) {
            x.make(type, 15, 0, 0);
            passes(type, 15, 0, AFTER_AN_INDEX, TRACE_OF_AN_INDEX);
            x.make(type, 15, 64, 0);
            passes(type, 15, 63, 0, TRACE_OF_A_LOAD);
            passes(type, 15, 64, AFTER_AN_INDEX, TRACE_OF_AN_INDEX);
        }
    }

    static void promise23TheOuterFramePassesOnNull() {
        for (int type : NUMBER_TYPES) {
            throwsNow("pass(" + type + ", nothing, 0)", x.pass(type, EMPTY, 0), NULL);
            due("trace()", x.trace(), TRACE_OF_NULL);
        }
        due("thrown(1)", x.thrown(NULL), 7);
    }

    static void promise23NullIsAheadOfIndex() {
        throwsNow("pass(0, nothing, -1)", x.pass(0, EMPTY, -1), NULL);
        throwsNow("pass(0, nothing, MAX)", x.pass(0, EMPTY, MAX), NULL);
    }

    static void promise23WhatIsCaughtIsNotThrown() {
        passes(0, 1, 0, AFTER_A_CAST, TRACE_OF_A_CAST);
        passes(0, 0, 4, AFTER_AN_INDEX, TRACE_OF_AN_INDEX);
        due("thrown(4)", x.thrown(CAST), 0);
        due("thrown(2)", x.thrown(INDEX), 0);
    }

    static void promise23NoNumberTypeIsRefusedFirst() {
        x.pass(0, 0, 4);
        for (int type : new int[] {-1, 7, 8, 9, 10, 11, 12, 13, 14, 15, 16, MIN, MAX}) {
            throwsNow("pass(" + type + ", 0, 0)", x.pass(type, 0, 0), REFUSED);
            throwsNow("pass(" + type + ", nothing, 0)", x.pass(type, EMPTY, 0), REFUSED);
            due("trace(), as before", x.trace(), TRACE_OF_AN_INDEX);
        }
    }

    static void promise23NoCellIsRefused() {
        x.pass(0, 0, 0);
        for (int cell : NO_CELLS) {
            throwsNow("pass(0, " + cell + ", 0)", x.pass(0, cell, 0), REFUSED);
            due("trace(), as before", x.trace(), TRACE_OF_A_LOAD);
        }
    }

    // ---- 24: trace

    static void promise24Is0BeforeAPass() {
        due("trace()", x.trace(), 0);
        x.load(0, 0, 4);
        due("trace() behind a load", x.trace(), 0);
    }

    static void promise24Is0BehindRefusedOnesAlone() {
        x.pass(7, 7, 0);
        x.pass(0, 16, 0);
        due("trace()", x.trace(), 0);
    }

    static void promise24BeginsAt0WithEachPass() {
        int[] wants = {TRACE_OF_A_LOAD, TRACE_OF_A_CAST, TRACE_OF_AN_INDEX, TRACE_OF_NULL};
        for (int first = 0; first < 4; first++) {
            for (int second = 0; second < 4; second++) {
                passOnce(first);
                passOnce(second);
                due("trace() of " + second + " behind " + first, x.trace(), wants[second]);
            }
        }
    }

    /** 0 loads, 1 has a CAST caught, 2 an INDEX, 3 throws NULL. */
    private static void passOnce(int end) {
        x.pass(0, end == 1 ? 1 : end == 3 ? EMPTY : 0, end == 2 ? 4 : 0);
    }

    static void promise24OtherActsLeaveIt() {
        x.pass(0, EMPTY, 0);
        for (Acts.Act act : Acts.working()) {
            if (!act.name().equals("pass")) {
                act.call().on(x);
                due("trace() behind " + act.told(), x.trace(), TRACE_OF_NULL);
            }
        }
        for (Acts.Act act : Acts.refused()) {
            act.call().on(x);
            due("trace() behind " + act.told(), x.trace(), TRACE_OF_NULL);
        }
    }

    static void promise24IsNoAct() {
        x.pass(0, EMPTY, 0);
        x.trace();
        due("latest()", x.latest(), NULL);
        due("thrown(1)", x.thrown(NULL), 1);
    }

    // ---- 25: latest

    static void promise25OfEachActThatWorks() {
        Set<String> names = new HashSet<>();
        for (Acts.Act act : Acts.working()) {
            names.add(act.name());
            for (Acts.Act before : throwEach()) {
                before.call().on(x);
                due("latest() behind " + before.told(), x.latest(), before.cause());
                act.call().on(x);
                due("latest() behind " + act.told(), x.latest(), 0);
            }
            x = full();
        }
        due("acts that were tried", names.size(), Acts.COUNT);
    }

    /** One act of each cause, those that call() alone throws among them. */
    private static List<Acts.Act> throwEach() {
        return List.of(
            new Acts.Act("length(0, nothing)", NULL, y -> y.length(0, EMPTY)),
            new Acts.Act("load(0, 0, -1)", INDEX, y -> y.load(0, 0, -1)),
            new Acts.Act("make(0, 14, -1, 0)", SIZE, y -> y.make(0, 14, -1, 0)),
            new Acts.Act("length(0, 1)", CAST, y -> y.length(0, 1)),
            new Acts.Act("put(8, 9, 0, 10)", STORE, y -> y.put(8, 9, 0, 10)),
            new Acts.Act("divide(2, 1, 0)", DIVISION, y -> y.divide(2, 1, 0)),
            new Acts.Act("call(14, 5)", OWN, FramesTest::callWithOwn),
            new Acts.Act("move(0, 16)", REFUSED, y -> y.move(0, 16)));
    }

    private static long callWithOwn(ThrowModels y) {
        y.make(10, 14, -1, 0);
        return y.call(14, 5);
    }

    static void promise25OfEachActThatThrows() {
        for (Acts.Act act : Acts.throwing()) {
            throwsNow(act.told(), act.call().on(x), act.cause());
        }
        for (Acts.Act act : throwEach()) {
            throwsNow(act.told(), act.call().on(x), act.cause());
        }
    }

    static void promise25OfEachActThatIsRefused() {
        Set<String> names = new HashSet<>();
        for (Acts.Act act : Acts.refused()) {
            names.add(act.name());
            throwsNow(act.told(), act.call().on(x), REFUSED);
        }
        due("acts that were tried", names.size(), Acts.COUNT);
    }

    static void promise25IsNoActNorAreIsSameTraceAndThrown() {
        x.length(0, EMPTY);
        for (int time = 0; time < 2; time++) {
            due("latest()", x.latest(), NULL);
            x.is(0, 0);
            x.is(16, 16);
            x.same(0, 0);
            x.same(-1, 16);
            x.trace();
            x.thrown(NULL);
            x.thrown(9);
        }
        due("thrown(1)", x.thrown(NULL), 1);
        due("thrown(8)", x.thrown(REFUSED), 0);
    }

    static void promise25OfAThrowBehindAnother() {
        for (Acts.Act first : throwEach()) {
            for (Acts.Act second : throwEach()) {
                first.call().on(x);
                second.call().on(x);
                due("latest() of " + second.told() + " behind " + first.told(), x.latest(), second.cause());
            }
        }
    }

    // ---- 26: thrown

    static void promise26CountsEachCause() {
        for (Acts.Act act : throwEach()) {
            for (int time = 1; time <= act.cause(); time++) {
                due("thrown() before " + act.told(), x.thrown(act.cause()), time - 1);
                act.call().on(x);
                due("thrown() behind " + act.told(), x.thrown(act.cause()), time);
            }
        }
        for (int what = 1; what <= 8; what++) {
            due("thrown(" + what + ")", x.thrown(what), what);
        }
    }

    static void promise26Is0ForOthers() {
        for (Acts.Act act : throwEach()) {
            act.call().on(x);
        }
        x.length(0, 0);
        for (int what : new int[] {0, 9, -1, MIN, MAX}) {
            due("thrown(" + what + ")", x.thrown(what), 0);
        }
        due("thrown(1)", x.thrown(NULL), 1);
        due("thrown(8)", x.thrown(REFUSED), 1);
    }

    static void promise26CountsNoActThatWorks() {
        for (Acts.Act act : Acts.working()) {
            act.call().on(x);
        }
        for (int what = 0; what <= 9; what++) {
            due("thrown(" + what + ")", x.thrown(what), 0);
        }
    }

    static void promise26CountsEveryActOnce() {
        int[] wants = new int[9];
        for (Acts.Act act : Acts.throwing()) {
            act.call().on(x);
            wants[act.cause()]++;
        }
        for (Acts.Act act : Acts.refused()) {
            act.call().on(x);
            wants[act.cause()]++;
        }
        for (int what = 1; what <= 8; what++) {
            due("thrown(" + what + ")", x.thrown(what), wants[what]);
        }
    }

    static void promise26CountsUpToTheLastCall() {
        x = new ThrowModels();
        for (int call = 0; call < 511; call++) {
            x.move(0, 16);
        }
        due("thrown(8), the call 512", x.thrown(REFUSED), 511);
    }

    static void promise26IsNoAct() {
        x.length(0, EMPTY);
        x.thrown(0);
        x.thrown(-1);
        x.thrown(16);
        due("latest()", x.latest(), NULL);
        due("thrown(8)", x.thrown(REFUSED), 0);
    }

    // ---- 2 to 23: what holds for every act that throws

    static void promise02To23AThrowChangesNothingElse() {
        String before = told(filled());
        for (Acts.Act act : Acts.throwing()) {
            changesNothing(act, before);
        }
    }

    static void promise02To23ARefusedCallChangesNothing() {
        String before = told(filled());
        for (Acts.Act act : Acts.refused()) {
            changesNothing(act, before);
        }
    }

    private static void changesNothing(Acts.Act act, String before) {
        ThrowModels filled = filled();
        due(act.told(), act.call().on(filled), 0);
        due("latest() behind " + act.told(), filled.latest(), act.cause());
        due("thrown() behind " + act.told(), filled.thrown(act.cause()), 1);
        due("the same as before " + act.told(), told(filled).equals(before) ? 1 : 0, 1);
    }

    /** As full(), with numbers and things in the arrays that can be told from each other. */
    private static ThrowModels filled() {
        x = full();
        for (int type : NUMBER_TYPES) {
            count(type, type, 4, 10 * type);
        }
        for (int i = 0; i < 4; i++) {
            x.take(7, 7, i, 15);
            count(0, 15, 3, 100 + 10 * i);
        }
        x.move(-1, 15);
        x.put(8, 8, 0, 10);
        x.put(8, 8, 1, 11);
        x.put(8, 8, 2, 12);
        x.put(9, 9, 3, 12);
        return x;
    }

    /** All that the cells hold; the cell 15 is written to. */
    private static String told(ThrowModels y) {
        StringBuilder told = new StringBuilder();
        for (int cell = 0; cell < 16; cell++) {
            told.append(y.is(cell, Math.min(cell, EMPTY))).append(y.same(cell, 15)).append(y.field(10, cell)).append(' ');
        }
        for (int type : NUMBER_TYPES) {
            for (int i = 0; i < 4; i++) {
                told.append(y.load(type, type, i)).append(' ');
            }
        }
        for (int i = 0; i < 4; i++) {
            for (int j = 0; j < 3; j++) {
                told.append(y.cross(7, i, j)).append(' ');
            }
            for (int type = 8; type <= 9; type++) {
                y.take(type, type, i, 15);
                told.append(y.same(15, 10)).append(y.same(15, 11)).append(y.same(15, 12)).append(y.same(15, 14)).append(' ');
            }
        }
        return told.toString();
    }
}
