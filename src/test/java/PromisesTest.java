import java.lang.reflect.Method;
import java.util.Set;
import java.util.TreeSet;

/** Every promise has cases of its own, and every case is one that Cases.run() finds. */
public final class PromisesTest {
    private static final int PROMISES = 26;
    private static final Class<?>[] TESTS = {
        CellsTest.class, ElementsTest.class, CopyTest.class, OwnThingsTest.class, NumbersByHandTest.class, FramesTest.class,
    };

    public static void main(String[] args) {
        Set<Integer> promises = new TreeSet<>();
        for (Class<?> test : TESTS) {
            Check.begin(test.getName());
            for (Method method : test.getDeclaredMethods()) {
                String name = method.getName();
                if (name.startsWith("promise")) {
                    Check.due("run() finds " + name, Cases.isCase(method) ? 1 : 0, 1);
                    promises.add(Integer.parseInt(name.substring(7, 9)));
                }
            }
        }
        Check.begin("all tests");
        for (int promise = 1; promise <= PROMISES; promise++) {
            Check.due("cases of promise " + promise, promises.contains(promise) ? 1 : 0, 1);
        }
        Check.due("promises with cases", promises.size(), PROMISES);
        Check.end();
    }
}
