import java.lang.reflect.Method;
import java.lang.reflect.InvocationTargetException;
import java.util.Map;
import java.util.TreeMap;

/**
 * Runs the tests of the boundary cases, which stand by the document's parts under src/test/support:
 * every method promiseNN_.. is one, for one sentence of promise NN or of the terms it uses.
 */
public final class RubberSealsEdges extends Bench {
    private static final int PROMISES = 45;
    private static final Class<?>[] PARTS = {
        EdgesOfRows.class, EdgesOfTexts.class, EdgesOfSeals.class, EdgesOfResting.class, EdgesOfLeaks.class, EdgesOfAges.class,
        EdgesOfChoices.class, EdgesOfTelling.class,
    };

    public static void main(String[] args) throws IllegalAccessException {
        Map<String, Method> tests = collected();
        for (Map.Entry<String, Method> one : tests.entrySet()) {
            begin(one.getKey());
            try {
                one.getValue().invoke(null);
            } catch (InvocationTargetException e) {
                e.getCause().printStackTrace(System.out);
                due("it ran to its end", 0, 1);
            }
        }
        begin("all");
        for (int n = 1; n <= PROMISES; n++) dueTested(n, tests);
        System.out.println(tests.size() + " boundary cases");
        end();
    }

    private static Map<String, Method> collected() {
        Map<String, Method> tests = new TreeMap<>();
        for (Class<?> part : PARTS) {
            for (Method m : part.getDeclaredMethods()) {
                if (!m.getName().matches("promise\\d\\d_\\w+")) continue;
                due("tests named " + m.getName() + " so far", tests.containsKey(m.getName()) ? 1 : 0, 0);
                tests.put(m.getName(), m);
            }
        }
        return tests;
    }

    private static void dueTested(int promise, Map<String, Method> tests) {
        String start = String.format("promise%02d_", promise);
        int found = 0;
        for (String name : tests.keySet()) {
            if (name.startsWith(start)) found = 1;
        }
        due("whether promise " + promise + " has a boundary case", found, 1);
    }
}
