import java.util.ArrayList;
import java.util.List;

/** Calls of every act on a machine that is Cases.full(): such that work, that throw, and that are refused. */
final class Acts {
    /** The number of acts: all calls of the face but is(), same(), latest(), thrown(), trace(). */
    static final int COUNT = 20;

    interface Call {
        long on(ThrowModels x);
    }

    /** A call with what it throws, 0 for nothing. */
    record Act(String told, int cause, Call call) {
        String name() {
            return told.substring(0, told.indexOf('('));
        }
    }

    private static final int NOTHING = Cases.EMPTY;
    private static final int[] NO_NUMBERS = {-1, Cases.MIN, Cases.MAX};

    private final List<Act> acts = new ArrayList<>();

    private Acts() {
    }

    private void add(String told, int cause, Call call) {
        acts.add(new Act(told, cause, call));
    }

    /** One call of each act that throws nothing, and both that throw within pass() but are caught. */
    static List<Act> working() {
        Acts of = new Acts();
        of.add("make(0, 15, 4, 0)", 0, x -> x.make(0, 15, 4, 0));
        of.add("move(0, 15)", 0, x -> x.move(0, 15));
        of.add("twin(0, 15)", 0, x -> x.twin(0, 15));
        of.add("length(0, 0)", 0, x -> x.length(0, 0));
        of.add("load(0, 0, 0)", 0, x -> x.load(0, 0, 0));
        of.add("store(0, 0, 0, 1)", 0, x -> x.store(0, 0, 0, 1));
        of.add("take(7, 7, 0, 15)", 0, x -> x.take(7, 7, 0, 15));
        of.add("put(7, 7, 0, 0)", 0, x -> x.put(7, 7, 0, 0));
        of.add("cross(7, 0, 0)", 0, x -> x.cross(7, 0, 0));
        of.add("copy(0, 0, 0, 1, 1)", 0, x -> x.copy(0, 0, 0, 1, 1));
        of.add("field(10, 10)", 0, x -> x.field(10, 10));
        of.add("write(10, 10, 1)", 0, x -> x.write(10, 10, 1));
        of.add("call(10, 0)", 0, x -> x.call(10, 0));
        of.add("divide(0, 1, 1)", 0, x -> x.divide(0, 1, 1));
        of.add("real(3, 0, 0)", 0, x -> x.real(3, 0, 0));
        of.add("math(0, 0)", 0, x -> x.math(0, 0));
        of.add("narrow(0, 0)", 0, x -> x.narrow(0, 0));
        of.add("widen(0, 0)", 0, x -> x.widen(0, 0));
        of.add("compare(0, 0, 0)", 0, x -> x.compare(0, 0, 0));
        of.add("pass(0, 0, 0)", 0, x -> x.pass(0, 0, 0));
        of.add("pass(0, 1, 0)", 0, x -> x.pass(0, 1, 0));
        of.add("pass(0, 0, 4)", 0, x -> x.pass(0, 0, 4));
        return of.acts;
    }

    /** Each act with each of its throws; no copy that stops in the midst. */
    static List<Act> throwing() {
        Acts of = new Acts();
        of.add("make(0, 0, -1, 0)", Cases.SIZE, x -> x.make(0, 0, -1, 0));
        of.add("make(7, 0, 1, -1)", Cases.SIZE, x -> x.make(7, 0, 1, -1));
        of.add("twin(1, 0)", Cases.CAST, x -> x.twin(1, 0));
        of.add("twin(nothing, 0)", Cases.NULL, x -> x.twin(NOTHING, 0));
        of.add("length(0, 1)", Cases.CAST, x -> x.length(0, 1));
        of.add("length(0, nothing)", Cases.NULL, x -> x.length(0, NOTHING));
        of.add("load(0, 1, 0)", Cases.CAST, x -> x.load(0, 1, 0));
        of.add("load(0, nothing, 0)", Cases.NULL, x -> x.load(0, NOTHING, 0));
        of.add("load(0, 0, 4)", Cases.INDEX, x -> x.load(0, 0, 4));
        of.add("store(0, 1, 0, 7)", Cases.CAST, x -> x.store(0, 1, 0, 7));
        of.add("store(0, nothing, 0, 7)", Cases.NULL, x -> x.store(0, NOTHING, 0, 7));
        of.add("store(0, 0, 4, 7)", Cases.INDEX, x -> x.store(0, 0, 4, 7));
        of.add("take(7, 8, 0, 0)", Cases.CAST, x -> x.take(7, 8, 0, 0));
        of.add("take(7, nothing, 0, 0)", Cases.NULL, x -> x.take(7, NOTHING, 0, 0));
        of.add("take(7, 7, 4, 0)", Cases.INDEX, x -> x.take(7, 7, 4, 0));
        of.add("put(7, 8, 0, 0)", Cases.CAST, x -> x.put(7, 8, 0, 0));
        of.add("put(7, 7, 0, 1)", Cases.CAST, x -> x.put(7, 7, 0, 1));
        of.add("put(7, nothing, 0, 0)", Cases.NULL, x -> x.put(7, NOTHING, 0, 0));
        of.add("put(7, 7, 4, 0)", Cases.INDEX, x -> x.put(7, 7, 4, 0));
        of.add("put(8, 9, 0, 10)", Cases.STORE, x -> x.put(8, 9, 0, 10));
        of.add("cross(0, 0, 0)", Cases.CAST, x -> x.cross(0, 0, 0));
        of.add("cross(nothing, 0, 0)", Cases.NULL, x -> x.cross(NOTHING, 0, 0));
        of.add("cross(7, 4, 0)", Cases.INDEX, x -> x.cross(7, 4, 0));
        of.add("cross(7, 0, 3)", Cases.INDEX, x -> x.cross(7, 0, 3));
        of.add("copy(nothing, 0, 0, 0, 1)", Cases.NULL, x -> x.copy(NOTHING, 0, 0, 0, 1));
        of.add("copy(0, 0, 1, 0, 1)", Cases.STORE, x -> x.copy(0, 0, 1, 0, 1));
        of.add("copy(0, 0, 0, 1, 4)", Cases.INDEX, x -> x.copy(0, 0, 0, 1, 4));
        of.add("copy(7, 0, 8, 0, 1)", Cases.STORE, x -> x.copy(7, 0, 8, 0, 1));
        of.add("field(10, 0)", Cases.CAST, x -> x.field(10, 0));
        of.add("field(10, nothing)", Cases.NULL, x -> x.field(10, NOTHING));
        of.add("write(11, 10, 7)", Cases.CAST, x -> x.write(11, 10, 7));
        of.add("write(10, nothing, 7)", Cases.NULL, x -> x.write(10, NOTHING, 7));
        of.add("call(0, 0)", Cases.CAST, x -> x.call(0, 0));
        of.add("call(nothing, 0)", Cases.NULL, x -> x.call(NOTHING, 0));
        of.add("divide(0, 1, 0)", Cases.DIVISION, x -> x.divide(0, 1, 0));
        of.add("divide(1, 1, 0)", Cases.DIVISION, x -> x.divide(1, 1, 0));
        of.add("divide(2, 1, 0)", Cases.DIVISION, x -> x.divide(2, 1, 0));
        of.add("divide(3, 1, 0)", Cases.DIVISION, x -> x.divide(3, 1, 0));
        of.add("pass(0, nothing, 0)", Cases.NULL, x -> x.pass(0, NOTHING, 0));
        return of.acts;
    }

    private void refuse(String told, Call call) {
        add(told, Cases.REFUSED, call);
    }

    /** Each act with each of its numbers just below and just above what there is, and far from it. */
    static List<Act> refused() {
        Acts of = new Acts();
        for (int cell : Cases.NO_CELLS) {
            of.refuseCell(cell);
        }
        of.refuse("move(-2, 0)", x -> x.move(-2, 0));
        of.refuse("move(16, 0)", x -> x.move(16, 0));
        of.refuse("make(13, 0, 1, 1)", x -> x.make(13, 0, 1, 1));
        of.refuse("make(0, 0, 65, 1)", x -> x.make(0, 0, 65, 1));
        of.refuse("make(7, 0, 1, 65)", x -> x.make(7, 0, 1, 65));
        for (int none : NO_NUMBERS) {
            of.refuseNumber(none);
        }
        of.refuse("length(10, 10)", x -> x.length(10, 10));
        of.refuse("load(7, 7, 0)", x -> x.load(7, 7, 0));
        of.refuse("store(7, 7, 0, 1)", x -> x.store(7, 7, 0, 1));
        of.refuse("take(6, 6, 0, 0)", x -> x.take(6, 6, 0, 0));
        of.refuse("put(10, 8, 0, 10)", x -> x.put(10, 8, 0, 10));
        of.refuse("field(9, 9)", x -> x.field(9, 9));
        of.refuse("field(13, 12)", x -> x.field(13, 12));
        of.refuse("write(9, 12, 1)", x -> x.write(9, 12, 1));
        of.refuse("write(13, 12, 1)", x -> x.write(13, 12, 1));
        of.refuse("call(12, 7)", x -> x.call(12, 7));
        of.refuse("divide(4, 1, 1)", x -> x.divide(4, 1, 1));
        of.refuse("real(8, 0, 0)", x -> x.real(8, 0, 0));
        of.refuse("math(10, 0)", x -> x.math(10, 0));
        of.refuse("narrow(6, 0)", x -> x.narrow(6, 0));
        of.refuse("widen(4, 0)", x -> x.widen(4, 0));
        of.refuse("compare(12, 0, 0)", x -> x.compare(12, 0, 0));
        of.refuse("pass(7, 7, 0)", x -> x.pass(7, 7, 0));
        return of.acts;
    }

    private void refuseCell(int cell) {
        refuse("make(0, " + cell + ", 1, 1)", x -> x.make(0, cell, 1, 1));
        refuse("move(0, " + cell + ")", x -> x.move(0, cell));
        refuse("twin(" + cell + ", 0)", x -> x.twin(cell, 0));
        refuse("twin(0, " + cell + ")", x -> x.twin(0, cell));
        refuse("length(0, " + cell + ")", x -> x.length(0, cell));
        refuse("load(0, " + cell + ", 0)", x -> x.load(0, cell, 0));
        refuse("store(0, " + cell + ", 0, 1)", x -> x.store(0, cell, 0, 1));
        refuse("take(7, " + cell + ", 0, 0)", x -> x.take(7, cell, 0, 0));
        refuse("take(7, 7, 0, " + cell + ")", x -> x.take(7, 7, 0, cell));
        refuse("put(7, " + cell + ", 0, 0)", x -> x.put(7, cell, 0, 0));
        refuse("put(7, 7, 0, " + cell + ")", x -> x.put(7, 7, 0, cell));
        refuse("cross(" + cell + ", 0, 0)", x -> x.cross(cell, 0, 0));
        refuse("copy(" + cell + ", 0, 0, 0, 1)", x -> x.copy(cell, 0, 0, 0, 1));
        refuse("copy(0, 0, " + cell + ", 0, 1)", x -> x.copy(0, 0, cell, 0, 1));
        refuse("field(10, " + cell + ")", x -> x.field(10, cell));
        refuse("write(10, " + cell + ", 1)", x -> x.write(10, cell, 1));
        refuse("call(" + cell + ", 0)", x -> x.call(cell, 0));
        refuse("pass(0, " + cell + ", 0)", x -> x.pass(0, cell, 0));
    }

    /** A number that is no kind, no type, no how and no which. */
    private void refuseNumber(int none) {
        refuse("make(" + none + ", 0, 1, 1)", x -> x.make(none, 0, 1, 1));
        refuse("length(" + none + ", 0)", x -> x.length(none, 0));
        refuse("load(" + none + ", 0, 0)", x -> x.load(none, 0, 0));
        refuse("store(" + none + ", 0, 0, 1)", x -> x.store(none, 0, 0, 1));
        refuse("take(" + none + ", 7, 0, 0)", x -> x.take(none, 7, 0, 0));
        refuse("put(" + none + ", 7, 0, 0)", x -> x.put(none, 7, 0, 0));
        refuse("field(" + none + ", 10)", x -> x.field(none, 10));
        refuse("write(" + none + ", 10, 1)", x -> x.write(none, 10, 1));
        refuse("call(10, " + none + ")", x -> x.call(10, none));
        refuse("divide(" + none + ", 1, 1)", x -> x.divide(none, 1, 1));
        refuse("real(" + none + ", 0, 0)", x -> x.real(none, 0, 0));
        refuse("math(" + none + ", 0)", x -> x.math(none, 0));
        refuse("narrow(" + none + ", 0)", x -> x.narrow(none, 0));
        refuse("widen(" + none + ", 0)", x -> x.widen(none, 0));
        refuse("compare(" + none + ", 0, 0)", x -> x.compare(none, 0, 0));
        refuse("pass(" + none + ", 0, 0)", x -> x.pass(none, 0, 0));
    }
}
