import java.lang.reflect.InvocationTargetException;
import java.lang.reflect.Method;
import java.lang.reflect.Modifier;
import java.util.Map;
import java.util.TreeMap;

/**
 * What the tests of the promises are made of. A test is a class of this kind: each of its methods
 * that takes and gives nothing is a case, and its name tells which one. Every answer that is due
 * was worked out by hand, unless the case says how else.
 */
abstract class Cases {
    static final int NONE = -1;
    static final int LOWEST = Integer.MIN_VALUE;
    static final int HIGHEST = Integer.MAX_VALUE;

    static final int ANNOUNCED = 0;
    static final int IN_FORCE = 1;
    static final int LEAVING = 2;

    // What state() is asked for.
    static final int CLOCK = 0;
    static final int ALLOWED = 1;
    static final int MISSED = 2;
    static final int SOLVES = 3;
    static final int UNUSED = 4;
    static final int INSTANT = 5;
    static final int TASKS = 6;
    static final int REFUSED_AT = 7;

    // What task() is asked for.
    static final int PHASE = 0;
    static final int PERIOD = 1;
    static final int SOLVED = 2;
    static final int END = 3;
    static final int NEEDS = 4;
    static final int ENDS = 5;
    static final int LATEST_END = 6;
    static final int FLAT = 7;

    // The part of a fraction that rate() and total() are asked for.
    static final int ABOVE = 0;
    static final int BELOW = 1;

    private String running;
    private int answers = 0;
    private int wrong = 0;

    void runAll() {
        Map<String, Method> cases = allCases();
        int failed = 0;
        for (Method each : cases.values()) {
            int before = wrong;
            run(each);
            failed += wrong > before ? 1 : 0;
        }
        System.out.println(cases.size() + " cases, " + answers + " answers, " + failed + " cases failed");
        if (failed != 0 || cases.isEmpty()) {
            System.exit(1);
        }
    }

    private Map<String, Method> allCases() {
        Map<String, Method> cases = new TreeMap<>();
        for (Method each : getClass().getDeclaredMethods()) {
            if (isCase(each)) {
                cases.put(each.getName(), each);
            }
        }
        return cases;
    }

    private static boolean isCase(Method each) {
        return !Modifier.isStatic(each.getModifiers()) && each.getParameterCount() == 0
                && each.getReturnType() == void.class;
    }

    private void run(Method each) {
        running = getClass().getName() + "." + each.getName();
        try {
            each.invoke(this);
        } catch (InvocationTargetException e) {
            tell("threw " + e.getCause());
        } catch (IllegalAccessException e) {
            tell("can't be called: " + e);
        }
    }

    private void tell(String fault) {
        wrong++;
        System.out.println(running + ": " + fault);
    }

    void due(String what, int got, int want) {
        answers++;
        if (got != want) {
            tell(what + ": answered " + got + ", due is " + want);
        }
    }

    void due(String what, boolean got, boolean want) {
        due(what, got ? 1 : 0, want ? 1 : 0);
    }

    /** What state() answers from 0 on: as many as are told. */
    void states(String when, ElasticKernel kernel, int... wants) {
        for (int what = 0; what < wants.length; what++) {
            due(when + ", state(" + what + ")", kernel.state(what), wants[what]);
        }
    }

    /** What task() answers of the task from 0 on: as many as are told. */
    void tasks(String when, ElasticKernel kernel, int id, int... wants) {
        for (int what = 0; what < wants.length; what++) {
            due(when + ", task(" + id + ", " + what + ")", kernel.task(id, what), wants[what]);
        }
    }

    /** A load that has one word above and one below the line. */
    void rate(String when, ElasticKernel kernel, int id, int above, int below) {
        rateWords(when, kernel, id, ABOVE, above, 0);
        rateWords(when, kernel, id, BELOW, below, 0);
    }

    void rateWords(String when, ElasticKernel kernel, int id, int part, int... wants) {
        for (int k = 0; k < wants.length; k++) {
            due(when + ", rate(" + id + ", " + part + ", " + k + ")", kernel.rate(id, part, k), wants[k]);
        }
    }

    /** A sum of loads that has one word above and one below the line. */
    void total(String when, ElasticKernel kernel, int above, int below) {
        totalWords(when, kernel, ABOVE, above, 0);
        totalWords(when, kernel, BELOW, below, 0);
    }

    void totalWords(String when, ElasticKernel kernel, int part, int... wants) {
        for (int k = 0; k < wants.length; k++) {
            due(when + ", total(" + part + ", " + k + ")", kernel.total(part, k), wants[k]);
        }
    }

    /** As many ticks as are told, one by one: who gets them. */
    void ticks(String when, ElasticKernel kernel, int... wants) {
        for (int want : wants) {
            due(when + ", tick(1) at " + kernel.state(CLOCK), kernel.tick(1), want);
        }
    }

    void throwsAtTick(ElasticKernel kernel, int n) {
        boolean isThrown = false;
        try {
            kernel.tick(n);
        } catch (IllegalArgumentException e) {
            isThrown = true;
        }
        due("tick(" + n + ") throws", isThrown, true);
    }
}
