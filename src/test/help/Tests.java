import java.lang.reflect.InvocationTargetException;
import java.lang.reflect.Method;
import java.util.Arrays;
import java.util.Comparator;

/**
 * Runs the tests of a class: its static methods without parameters whose names begin with "promise" and the two digits of
 * the promise (then "Terms", if the sentence stands there), or with "terms". Each stands for one sentence of ../shared/DOC.md.
 */
final class Tests {
    /** A call on an object, with its answer. */
    interface Call {
        long on(CrashTies x);
    }

    /** Calls that bring a new object into some state. */
    interface Scene {
        void on(CrashTies x);
    }

    static final int MIN = Integer.MIN_VALUE, MAX = Integer.MAX_VALUE;

    private static int wrong = 0;
    private static String running = "";

    private Tests() {
    }

    static void run(Class<?> tests) {
        Method[] methods = tests.getDeclaredMethods();
        Arrays.sort(methods, Comparator.comparing(Method::getName));
        int ran = 0;
        for (Method method : methods) {
            if (method.getParameterCount() > 0 || !method.getName().matches("(promise[0-4][0-9]|terms)[A-Z].*")) continue;
            runOne(method);
            ran++;
        }
        if (ran == 0) wrong++;
        System.out.println(tests.getName() + ": " + ran + " tests, " + wrong + " wrong");
        if (wrong != 0) System.exit(1);
    }

    private static void runOne(Method method) {
        running = method.getName();
        try {
            method.setAccessible(true);
            method.invoke(null);
        } catch (InvocationTargetException | IllegalAccessException e) {
            say("threw " + (e.getCause() == null ? e : e.getCause()));
        }
    }

    private static void say(String what) {
        wrong++;
        System.out.println(running + ": " + what);
    }

    static void due(String call, long got, long want) {
        if (got != want) say(call + " answered " + got + ", due is " + want);
    }

    static CrashTies made(Scene scene) {
        CrashTies x = new CrashTies();
        scene.on(x);
        return x;
    }

    /** The call answers so on the scene, and all that can be read afterwards is as if it had not been made. */
    static void refused(String call, long want, Scene scene, Call made) {
        CrashTies x = made(scene);
        due(call, made.on(x), want);
        alike("after " + call, x, made(scene));
    }

    /** The call is refused so on the busy scene, where it finds something of everything. */
    static void refused(String call, long want, Call made) {
        refused(call, want, Scenes::busy, made);
    }

    /** The call may answer what it likes, but all that can be read afterwards is as if it had not been made. */
    static void changesNothing(String call, Call made) {
        CrashTies x = made(Scenes::busy);
        made.on(x);
        alike("after " + call, x, made(Scenes::busy));
    }

    /** Reads all of both objects, which are used up by it. */
    static void alike(String when, CrashTies x, CrashTies twin) {
        Readings read = new Readings(x);
        Readings due = new Readings(twin);
        if (read.calls() > Readings.CALLS_MOST) say("too many readings: " + read.calls());
        String difference = read.firstDifference(due);
        if (difference != null) say(when + " " + difference);
    }
}
