import java.util.HashSet;
import java.util.Set;

/** What the boundary tests share: a test has a sentence for its name, a new object, and answers that are due. */
abstract class Boundary {
    static final int NONE = SegmentLocks.NONE;
    static final long ARGUMENT = 7_000_000_000_000_001L;
    static final long STATE = 7_000_000_000_000_002L;
    static final int LEAST = Integer.MIN_VALUE;
    static final int GREATEST = Integer.MAX_VALUE;
    static final int[] NO_SEGMENTS = {-1, 50, LEAST, GREATEST};
    /** No tasks in any object that a test makes with fewer than 30 of them. */
    static final int[] NO_TASKS = {0, -1, 30, 31, LEAST, GREATEST};

    private static final Set<String> names = new HashSet<>();
    private static String current = "";
    private static int wrong = 0;

    interface Body {
        void run(SegmentLocks x);
    }

    /** The body gets a new object with tasks 1 .. n of ages 1 .. n. */
    static void test(String sentence, int n, Body body) {
        current = sentence;
        if (!names.add(sentence)) {
            fail("is the name of two tests");
        }
        SegmentLocks x = new SegmentLocks();
        for (int age = 1; age <= n; age++) {
            x.task(age);
        }
        try {
            body.run(x);
        } catch (RuntimeException e) {
            fail("threw " + e + " at " + e.getStackTrace()[0]);
        }
    }

    private static void fail(String how) {
        wrong++;
        System.out.println(current + ": " + how);
    }

    static void due(long got, long want) {
        if (got != want) {
            int line = StackWalker.getInstance()
                    .walk(frames -> frames.filter(f -> !f.getClassName().equals("Boundary")).findFirst())
                    .map(StackWalker.StackFrame::getLineNumber).orElse(0);
            fail("line " + line + " answered " + got + ", due is " + want);
        }
    }

    static void due(boolean got, boolean want) {
        due(got ? 1L : 0L, want ? 1L : 0L);
    }

    private static long code(RuntimeException e) {
        if (e.getClass() == IllegalArgumentException.class) {
            return ARGUMENT;
        }
        if (e.getClass() == IllegalStateException.class) {
            return STATE;
        }
        throw e;
    }

    static long read(SegmentLocks x, int task, int segment) {
        try {
            return x.read(task, segment);
        } catch (RuntimeException e) {
            return code(e);
        }
    }

    static long value(SegmentLocks x, int segment) {
        try {
            return x.value(segment);
        } catch (RuntimeException e) {
            return code(e);
        }
    }

    /** The task, which has no locks, has the number agreed. */
    static void agree(SegmentLocks x, int task, int segment, long v) {
        due(x.ask(task, segment, 2), 1);
        due(x.write(task, segment, v), 1);
        due(x.sync(task), 1);
    }

    static void lockAll(SegmentLocks x, int task, int option) {
        for (int s = 0; s < 50; s++) {
            due(x.ask(task, s, option), 1);
        }
    }

    static void writeAll(SegmentLocks x, int task, long v) {
        for (int s = 0; s < 50; s++) {
            due(x.write(task, s, v + s), 1);
        }
    }

    /** Each has what the other asks for, on segments 0 and 1: what the last ask, that of the second one, answers. */
    static int cross(SegmentLocks x, int first, int second) {
        due(x.ask(first, 0, 2), 1);
        due(x.ask(second, 1, 2), 1);
        due(x.ask(first, 1, 2), 0);
        return x.ask(second, 0, 2);
    }

    static void dueRing(SegmentLocks x, int... tasks) {
        for (int i = 0; i < tasks.length; i++) {
            due(x.ring(i), tasks[i]);
        }
        due(x.ring(tasks.length), 0);
    }

    /** state(task, 0 .. 5). */
    static void dueStates(SegmentLocks x, int task, int... states) {
        for (int what = 0; what < 6; what++) {
            due(x.state(task, what), states[what]);
        }
    }

    static void end() {
        System.out.println(wrong == 0 ? "all " + names.size() + " boundary cases are as due"
                : wrong + " answers are not as due");
        if (wrong != 0) {
            System.exit(1);
        }
    }
}
