import java.lang.reflect.InvocationTargetException;
import java.lang.reflect.Method;
import java.util.ArrayList;
import java.util.Comparator;
import java.util.List;

/**
 * What the tests share: saying what is due, states that are ready, and running all tests of a class. A test is
 * a static method without parameters whose name begins with "promise" and the promise's number.
 */
abstract class Checks {
    static final int A = ModuleLoft.ABSTRACT;
    static final int PLAIN = ModuleLoft.PLAIN;
    static final int TYPE = 0, VALUE = 1, PART = 2;
    static final int LEAST = Integer.MIN_VALUE, GREATEST = Integer.MAX_VALUE;

    static final Class<?> IOOBE = IndexOutOfBoundsException.class;
    static final Class<?> IAE = IllegalArgumentException.class;
    static final Class<?> ISE = IllegalStateException.class;

    /** A call, or some of them. */
    interface Call {
        void run();
    }

    /** Makes an object and brings it into a state. */
    interface Making {
        ModuleLoft make();
    }

    /** A call on an object that is given. */
    interface CallOn {
        void run(ModuleLoft x);
    }

    private static int wrong = 0;
    private static int checks = 0;

    // ---- what is due

    static void due(long want, long got) {
        checks++;
        if (want != got) {
            report("answered " + got + ", due is " + want);
        }
    }

    static void due(boolean want, boolean got) {
        due(want ? 1 : 0, got ? 1 : 0);
    }

    static void dueThrow(Class<?> want, Call call) {
        checks++;
        Class<?> got = null;
        try {
            call.run();
        } catch (RuntimeException e) {
            got = e.getClass();
        }
        if (want != got) {
            report("threw " + got + ", due is " + want);
        }
    }

    /** The call is refused, and later calls show what they show on an object on which it was never called. */
    static void dueRefused(Class<?> want, Making making, CallOn refused) {
        ModuleLoft x = making.make();
        dueThrow(want, () -> refused.run(x));
        String got = Shown.by(x);
        String due = Shown.by(making.make());
        checks++;
        if (!due.equals(got)) {
            report("a refused call changed something:\n  with it    " + got + "\n  without it " + due);
        }
    }

    /** There are so many types: the last one is there, and the next is not. */
    static void dueTypes(int count, ModuleLoft x) {
        due(-1, Math.min(x.type(count - 1, 1), -1));
        dueThrow(IOOBE, () -> x.type(count, 0));
    }

    private static void report(String what) {
        wrong++;
        System.out.println(place() + ": " + what);
    }

    private static String place() {
        for (StackTraceElement frame : new Throwable().getStackTrace()) {
            if (frame.getMethodName().startsWith("promise")) {
                return frame.getMethodName() + ", line " + frame.getLineNumber();
            }
        }
        return "line unknown";
    }

    // ---- ready-made states

    /** Adds new types until there are so many. A wrong answer does not keep it going. */
    static void fillTypes(ModuleLoft x, int until) {
        int last = x.addType(9, -1);
        for (int more = 0; more < until && last < until - 1; more++) {
            last = x.addType(9, -1);
        }
    }

    static void fillStructures(ModuleLoft x, int until) {
        int last = x.structure();
        for (int more = 0; more < until && last < until - 1; more++) {
            last = x.structure();
        }
    }

    static void fillSignatures(ModuleLoft x, int until) {
        int last = x.signature();
        for (int more = 0; more < until && last < until - 1; more++) {
            last = x.signature();
        }
    }

    /** Structure 0: TYPE 0 is type 2, VALUE 0 of it is 5. Signature 0: TYPE 0 is abstract, VALUE 0 is of it. */
    static ModuleLoft counter() {
        ModuleLoft x = new ModuleLoft();
        x.addType(0, -1);
        x.addValue(0, 2, 5);
        x.structure();
        x.specType(0, A);
        x.specValue(0, -1, PLAIN);
        x.signature();
        return x;
    }

    // ---- all tests of a class

    static void runAll(Class<?> tests) {
        List<Method> found = new ArrayList<>();
        for (Method method : tests.getDeclaredMethods()) {
            if (method.getName().startsWith("promise") && method.getParameterCount() == 0) {
                found.add(method);
            }
        }
        found.sort(Comparator.comparing(Method::getName));
        for (Method method : found) {
            runOne(method);
        }
        System.out.println(found.size() + " tests, " + checks + " answers looked at, " + wrong + " are not as due");
        if (wrong != 0 || found.isEmpty()) {
            System.exit(1);
        }
    }

    private static void runOne(Method method) {
        try {
            method.setAccessible(true);
            method.invoke(null);
        } catch (InvocationTargetException e) {
            wrong++;
            System.out.println(method.getName() + " broke off:");
            e.getCause().printStackTrace(System.out);
        } catch (IllegalAccessException e) {
            throw new IllegalStateException(e);
        }
    }
}
