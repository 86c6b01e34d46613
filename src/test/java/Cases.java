import java.lang.reflect.InvocationTargetException;
import java.lang.reflect.Method;
import java.util.Arrays;
import java.util.Comparator;
import java.util.Set;
import java.util.TreeSet;

/**
 * Runs the cases of a test, each by itself: its methods whose names begin with p and the two digits of a promise.
 * A promise without a case fails, and so does a case that throws, or that asks nothing.
 */
final class Cases {
    private Cases() { }

    static void run(Object test, Due due, int... promises) throws IllegalAccessException {
        Method[] methods = test.getClass().getDeclaredMethods();
        Arrays.sort(methods, Comparator.comparing(Method::getName));
        Set<Integer> seen = new TreeSet<>();
        for (Method method : methods) {
            if (!method.getName().matches("p\\d\\d[A-Z]\\w*")) continue;
            seen.add(Integer.parseInt(method.getName().substring(1, 3)));
            runOne(test, method, due);
        }
        for (int promise : promises) {
            if (!seen.contains(promise)) due.fails("no case of promise " + promise);
        }
        due.end();
    }

    private static void runOne(Object test, Method method, Due due) throws IllegalAccessException {
        due.begin(method.getName());
        int before = due.seen();
        try {
            method.invoke(test);
        } catch (InvocationTargetException thrown) {
            due.fails("threw " + thrown.getCause());
        }
        if (due.seen() == before) due.fails("asked nothing");
    }
}
