import java.lang.reflect.InvocationTargetException;
import java.lang.reflect.Method;
import java.lang.reflect.Modifier;
import java.util.Arrays;
import java.util.Comparator;
import java.util.List;
import java.util.function.Supplier;
import java.util.function.ToLongFunction;

/** What the tests share; counts and prints the answers that are not as due. */
final class Check {
    private int wrong = 0;
    private String about = "";

    /** A call of which one number is still open. */
    interface Call {
        long ask(LiveHull hull, int number);
    }

    /** Runs each static method of a class that is not private and takes nothing, by its name. */
    void runAll(Class<?> tests) throws IllegalAccessException {
        Method[] methods = tests.getDeclaredMethods();
        Arrays.sort(methods, Comparator.comparing(Method::getName));
        int ran = 0;
        for (Method method : methods) {
            if (isTest(method)) {
                about(tests.getName() + "." + method.getName());
                run(method);
                ran++;
            }
        }
        System.out.println(tests.getName() + ": " + ran + " tests");
        if (ran == 0) wrong++;
        end();
    }

    private static boolean isTest(Method method) {
        return method.getParameterCount() == 0 && Modifier.isStatic(method.getModifiers())
            && !Modifier.isPrivate(method.getModifiers()) && !method.isSynthetic();
    }

    private void run(Method test) throws IllegalAccessException {
        try {
            test.invoke(null);
        } catch (InvocationTargetException thrown) {
            wrong++;
            System.out.println(about + ": a call has thrown " + thrown.getCause());
        }
    }

    void about(String text) {
        about = text;
    }

    void due(String call, long got, long want) {
        if (got != want) {
            wrong++;
            System.out.println(about + ": " + call + " answered " + got + ", due is " + want);
        }
    }

    void row(String call, long[] got, long... want) {
        due(call + " how many", got.length, want.length);
        for (int k = 0; k < Math.min(got.length, want.length); k++) {
            due(call + " [" + k + "]", got[k], want[k]);
        }
    }

    /** The call answers so, and afterwards all is as if it had not been made. */
    void refused(Supplier<LiveHull> made, String call, ToLongFunction<LiveHull> asked, long want) {
        due(call, asked.applyAsLong(made.get()), want);
        same(call + " and then ", made, () -> {
            LiveHull hull = made.get();
            asked.applyAsLong(hull);
            return hull;
        });
    }

    /** The call is refused so with each of the numbers. */
    void refusedEach(Supplier<LiveHull> made, int[] numbers, Call asked, long want) {
        for (int number : numbers) {
            refused(made, "with " + number, hull -> asked.ask(hull, number), want);
        }
    }

    /** Two objects answer alike whatever they are asked. */
    void same(String what, Supplier<LiveHull> one, Supplier<LiveHull> other) {
        List<Answers.Answer> due = Answers.all(one);
        List<Answers.Answer> got = Answers.all(other);
        for (int k = 0; k < due.size(); k++) {
            due(what + due.get(k).call(), got.get(k).told(), due.get(k).told());
        }
    }

    boolean failed() {
        return wrong != 0;
    }

    void end() {
        if (wrong != 0) {
            System.out.println(wrong + " answers are not as due");
            System.exit(1);
        }
    }
}
