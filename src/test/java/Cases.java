import java.lang.reflect.InvocationTargetException;
import java.lang.reflect.Method;
import java.lang.reflect.Modifier;
import java.util.Map;
import java.util.TreeMap;

/**
 * What the tests by cases share. A case is a static method without parameters whose name begins with the promise that
 * it tests, as in promise02LengthOf64IsMade. Each case has a machine of its own, x, which is full() at its start.
 */
abstract class Cases {
    static final int NULL = 1;
    static final int INDEX = 2;
    static final int SIZE = 3;
    static final int CAST = 4;
    static final int STORE = 5;
    static final int DIVISION = 6;
    static final int OWN = 7;
    static final int REFUSED = 8;
    static final int MIN = Integer.MIN_VALUE;
    static final int MAX = Integer.MAX_VALUE;
    static final int[] NO_CELLS = {-1, 16, MIN, MAX};
    static final int[] NO_INDEX_OF_4 = {-1, 4, 5, MIN, MAX};
    static final int[] NUMBER_TYPES = {0, 1, 2, 3, 4, 5, 6};
    static final int[] THING_TYPES = {7, 8, 9, 15};
    static final int[] OWN_TYPES = {10, 11, 12};
    /** In full(), the cell k holds a thing of the kind k; this one and those behind it hold nothing. */
    static final int EMPTY = 13;

    static ThrowModels x;

    /** Runs every case of a test, in the order of the names, and ends the test. */
    static void run(Class<?> test) {
        Map<String, Method> cases = new TreeMap<>();
        for (Method method : test.getDeclaredMethods()) {
            if (isCase(method)) {
                cases.put(method.getName(), method);
            }
        }
        for (Method method : cases.values()) {
            x = full();
            Check.begin(method.getName());
            invoke(method);
        }
        System.out.print(cases.size() + " cases, ");
        Check.end();
    }

    static boolean isCase(Method method) {
        int modifiers = method.getModifiers();
        boolean canBeRun = Modifier.isStatic(modifiers) && !Modifier.isPrivate(modifiers) && method.getParameterCount() == 0;
        return canBeRun && method.getName().matches("promise\\d\\d.*");
    }

    private static void invoke(Method method) {
        long before = Check.compared();
        try {
            method.invoke(null);
        } catch (InvocationTargetException thrown) {
            Check.wrong("threw " + thrown.getCause());
        } catch (IllegalAccessException thrown) {
            Check.wrong("cannot be run: " + thrown);
        }
        if (Check.compared() == before) {
            Check.wrong("compares nothing");
        }
    }

    /** A machine whose cell k holds a thing of the kind k: arrays of 4 (rows of 3), own things of 10. */
    static ThrowModels full() {
        ThrowModels made = new ThrowModels();
        for (int kind = 0; kind <= 12; kind++) {
            made.make(kind, kind, kind >= 10 ? 10 : 4, 3);
        }
        return made;
    }

    static void works(String call, long got, long want) {
        Check.works(x, call, got, want);
    }

    static void throwsNow(String call, long got, int cause) {
        Check.throwsNow(x, call, got, cause);
    }

    static void due(String call, long got, long want) {
        Check.due(call, got, want);
    }

    /** Stores first, first + 1 .. in the array of numbers of a cell. */
    static void count(int type, int cell, int n, int first) {
        for (int i = 0; i < n; i++) {
            x.store(type, cell, i, first + i);
        }
    }

    static void numbersAre(int type, int cell, long... wants) {
        due("length(" + type + ", " + cell + ")", x.length(type, cell), wants.length);
        for (int i = 0; i < wants.length; i++) {
            works("load(" + type + ", " + cell + ", " + i + ")", x.load(type, cell, i), wants[i]);
        }
    }

    /** Whether the elements of an array of things are the things of these cells; the cell 15 is written to. */
    static void elementsAre(int type, int cell, int... wants) {
        due("length(" + type + ", " + cell + ")", x.length(type, cell), wants.length);
        for (int i = 0; i < wants.length; i++) {
            works("take(" + type + ", " + cell + ", " + i + ", 15)", x.take(type, cell, i, 15), 1);
            due("element " + i + " of cell " + cell, x.same(15, wants[i]), 1);
        }
    }

    /** An array of PLAINS or of ROUNDS whose elements are the things of these cells. */
    static void makeThings(int kind, int cell, int... elements) {
        x.make(kind, cell, elements.length, 0);
        for (int i = 0; i < elements.length; i++) {
            works("put(" + kind + ", " + cell + ", " + i + ")", x.put(kind, cell, i, elements[i]), 1);
        }
    }
}
