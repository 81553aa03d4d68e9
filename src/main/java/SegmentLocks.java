import java.util.ArrayList;
import java.util.Arrays;

/**
 * Locks on segments, waited for in order. Rings of waiting tasks are broken by restarting the
 * youngest; a task's writes are seen by itself alone until its syncpoint.
 */
public final class SegmentLocks {
    public static final int NONE = -1;

    private static final int SEGMENTS = 50;
    private static final int MOST_TASKS = 30;

    private static final int READ = 0;
    private static final int UPDATE = 1;
    private static final int EXCLUSIVE = 2;
    private static final int WITHOUT_LOCK = 3;

    private static final int ACTIVE = 0;
    private static final int WAITS = 1;
    private static final int DEAD = 2;

    private static final int GRANTED = 1;
    private static final int TO_WAIT = 0;
    private static final int RESTARTED = -1;
    private static final int NO_SUCH_TASK = -2;
    private static final int OVER_LIMIT = -3;
    private static final int OUTSIDE = -4;
    private static final int NOT_ACTIVE = -5;

    private final long[] agreed = new long[SEGMENTS];
    private final ArrayList<Task> tasks = new ArrayList<Task>();
    private final Rows rows = new Rows();
    private final Rings rings = new Rings();
    private int mostLocks = 0;
    private boolean allInOrder = true;

    public SegmentLocks() {
    }

    public int task(int age) {
        if (tasks.size() >= MOST_TASKS) {
            return NONE;
        }
        int number = tasks.size() + 1;
        tasks.add(new Task(number, age));
        return number;
    }

    public int ask(int task, int segment, int option) {
        Task asker = find(task);
        if (asker == null) {
            return NO_SUCH_TASK;
        }
        if (!isSegment(segment) || option < READ || option > WITHOUT_LOCK) {
            return OUTSIDE;
        }
        if (asker.state != ACTIVE) {
            return NOT_ACTIVE;
        }
        if (option == WITHOUT_LOCK) {
            asker.looks[segment] = true;
            return GRANTED;
        }
        return askForLock(asker, segment, option);
    }

    public int write(int task, int segment, long v) {
        Task writer = find(task);
        if (writer == null) {
            return NO_SUCH_TASK;
        }
        if (!isSegment(segment)) {
            return OUTSIDE;
        }
        if (writer.state != ACTIVE) {
            return NOT_ACTIVE;
        }
        if (writer.locks[segment] < UPDATE) {
            return 0;
        }
        writer.keep(segment, v);
        return 1;
    }

    public long read(int task, int segment) throws IllegalArgumentException, IllegalStateException {
        Task reader = find(task);
        if (reader == null || !isSegment(segment)) {
            throw new IllegalArgumentException("no such task or segment");
        }
        if (reader.state != ACTIVE) {
            throw new IllegalStateException("the task is not active");
        }
        boolean locked = reader.locks[segment] != NONE;
        if (!locked && !reader.looks[segment]) {
            throw new IllegalStateException("the task has not asked for the segment");
        }
        if (reader.written[segment]) {
            return reader.kept[segment];
        }
        long seen = locked ? agreed[segment] : latest(segment);
        reader.remember(segment, seen, agreed[segment]);
        return seen;
    }

    public int sync(int task) {
        Task worker = find(task);
        if (worker == null) {
            return NO_SUCH_TASK;
        }
        if (worker.state != ACTIVE) {
            return NOT_ACTIVE;
        }
        int count = worker.writtenCount;
        agree(worker);
        return count;
    }

    public int backout(int task) {
        Task worker = find(task);
        if (worker == null) {
            return NO_SUCH_TASK;
        }
        if (worker.state == DEAD) {
            return NOT_ACTIVE;
        }
        int count = worker.writtenCount;
        letGo(worker, ACTIVE);
        return count;
    }

    public int ring(int i) {
        return rings.member(i);
    }

    public int checkpoint(int task) {
        Task worker = find(task);
        if (worker == null) {
            return NO_SUCH_TASK;
        }
        if (worker.state != ACTIVE) {
            return NOT_ACTIVE;
        }
        int count = worker.lockCount;
        agree(worker);
        return count;
    }

    public int dead(int task) {
        Task worker = find(task);
        if (worker == null) {
            return NO_SUCH_TASK;
        }
        int count = worker.lockCount;
        letGo(worker, DEAD);
        return count;
    }

    public int limit(int n) {
        if (n < 0) {
            return OUTSIDE;
        }
        int before = mostLocks;
        mostLocks = n;
        return before;
    }

    public int holder(int segment) {
        if (!isSegment(segment)) {
            return OUTSIDE;
        }
        int strongest = NONE;
        int number = 0;
        for (int i = 0; i < tasks.size(); i++) {
            Task task = tasks.get(i);
            if (task.locks[segment] > strongest) {
                strongest = task.locks[segment];
                number = task.number;
            }
        }
        return number;
    }

    public boolean serial() {
        return allInOrder;
    }

    public long value(int segment) throws IllegalArgumentException {
        if (!isSegment(segment)) {
            throw new IllegalArgumentException("no such segment");
        }
        return agreed[segment];
    }

    public int state(int task, int what) {
        Task asked = find(task);
        if (asked == null) {
            return NONE;
        }
        switch (what) {
            case 0:
                return asked.state;
            case 1:
                return asked.lockCount;
            case 2:
                return asked.writtenCount;
            case 3:
                return asked.restarts;
            case 4:
                return asked.waitsFor;
            case 5:
                return rows.countAhead(asked);
            default:
                return NONE;
        }
    }

    private Task find(int number) {
        return number >= 1 && number <= tasks.size() ? tasks.get(number - 1) : null;
    }

    private static boolean isSegment(int segment) {
        return segment >= 0 && segment < SEGMENTS;
    }

    private static boolean areTogether(int lock, int other) {
        if (lock == NONE || other == NONE) {
            return true;
        }
        return lock != EXCLUSIVE && other != EXCLUSIVE && (lock == READ || other == READ);
    }

    private int askForLock(Task asker, int segment, int option) {
        int has = asker.locks[segment];
        if (option <= has) {
            return GRANTED;
        }
        // Looked at before it is known whether the task has to wait: what is waited for
        // is granted in any case, so later would be too late.
        if (has == NONE && mostLocks > 0 && asker.lockCount >= mostLocks) {
            letGo(asker, DEAD);
            return OVER_LIMIT;
        }
        boolean itsTurn = has != NONE || rows.first(segment) == null;
        if (itsTurn && canHave(asker, segment, option)) {
            asker.take(segment, option);
            return GRANTED;
        }
        asker.state = WAITS;
        asker.waitsFor = segment;
        asker.wish = option;
        rows.enter(asker);
        return breakRings(asker);
    }

    private boolean canHave(Task asker, int segment, int option) {
        for (int i = 0; i < tasks.size(); i++) {
            Task other = tasks.get(i);
            if (other != asker && !areTogether(other.locks[segment], option)) {
                return false;
            }
        }
        return true;
    }

    private int breakRings(Task asker) {
        int restartsBefore = asker.restarts;
        // Each turn makes one waiting task active and none wait, so there are no more turns than tasks.
        for (int turn = 0; turn < MOST_TASKS && rings.search(tasks, rows, asker); turn++) {
            Task youngest = rings.youngest(asker);
            youngest.restarts++;
            letGo(youngest, ACTIVE);
        }
        if (asker.restarts != restartsBefore) {
            return RESTARTED;
        }
        return asker.state == WAITS ? TO_WAIT : GRANTED;
    }

    /** What the task keeps, has locked, may look at, has read and waits for is gone. */
    private void letGo(Task task, int stateThen) {
        rows.leave(task);
        task.forget();
        task.state = stateThen;
        grantRows();
    }

    private void grantRows() {
        for (int segment = 0; segment < SEGMENTS; segment++) {
            Task first = rows.first(segment);
            for (int turn = 0; turn < MOST_TASKS && first != null; turn++) {
                if (!canHave(first, segment, first.wish)) {
                    break;
                }
                rows.leave(first);
                first.take(segment, first.wish);
                first.stopWaiting();
                first = rows.first(segment);
            }
        }
    }

    /** No more than one task keeps a write of a segment: locks for writing are not together. */
    private long latest(int segment) {
        for (int i = 0; i < tasks.size(); i++) {
            Task task = tasks.get(i);
            if (task.written[segment]) {
                return task.kept[segment];
            }
        }
        return agreed[segment];
    }

    private void agree(Task worker) {
        if (!worker.isInOrder(agreed)) {
            allInOrder = false;
        }
        for (int segment = 0; segment < SEGMENTS; segment++) {
            if (worker.written[segment]) {
                agreed[segment] = worker.kept[segment];
            }
        }
        letGo(worker, ACTIVE);
    }

    private static final class Task {
        private final int number;
        private final int age;
        private final int[] locks = new int[SEGMENTS];
        private final boolean[] looks = new boolean[SEGMENTS];
        private final boolean[] written = new boolean[SEGMENTS];
        private final long[] kept = new long[SEGMENTS];
        private final boolean[] hasRead = new boolean[SEGMENTS];
        private final long[] seen = new long[SEGMENTS];
        private boolean strayed = false;
        private int state = ACTIVE;
        private int lockCount = 0;
        private int writtenCount = 0;
        private int restarts = 0;
        private int waitsFor = NONE;
        private int wish = NONE;

        private Task(int number, int age) {
            this.number = number;
            this.age = age;
            Arrays.fill(locks, NONE);
        }

        private boolean isYounger(Task other) {
            return age > other.age || (age == other.age && number > other.number);
        }

        private void take(int segment, int option) {
            if (locks[segment] == NONE) {
                lockCount++;
            }
            locks[segment] = option;
        }

        private void keep(int segment, long v) {
            if (!written[segment]) {
                writtenCount++;
            }
            written[segment] = true;
            kept[segment] = v;
        }

        /**
         * One number a segment is enough: a read that saw what was not agreed, or another number
         * than an earlier read, can't be in order any more, whatever is agreed at the syncpoint.
         */
        private void remember(int segment, long v, long agreedNow) {
            if (v != agreedNow || (hasRead[segment] && seen[segment] != v)) {
                strayed = true;
            }
            hasRead[segment] = true;
            seen[segment] = v;
        }

        private boolean isInOrder(long[] agreedNow) {
            if (strayed) {
                return false;
            }
            for (int segment = 0; segment < SEGMENTS && segment < agreedNow.length; segment++) {
                if (hasRead[segment] && seen[segment] != agreedNow[segment]) {
                    return false;
                }
            }
            return true;
        }

        private void stopWaiting() {
            state = ACTIVE;
            waitsFor = NONE;
            wish = NONE;
        }

        private void forget() {
            for (int segment = 0; segment < SEGMENTS; segment++) {
                locks[segment] = NONE;
                looks[segment] = false;
                written[segment] = false;
                hasRead[segment] = false;
            }
            strayed = false;
            lockCount = 0;
            writtenCount = 0;
            stopWaiting();
        }
    }

    /**
     * The rows of all segments in one list: a task waits for one segment at a time, so the row of
     * a segment is those in the list that wait for it, in the list's order.
     */
    private static final class Rows {
        private final ArrayList<Task> waiting = new ArrayList<Task>();

        private void enter(Task task) {
            int segment = task.waitsFor;
            if (!isSegment(segment)) {
                return;
            }
            int place = waiting.size();
            if (task.locks[segment] != NONE) {
                place = firstWithoutLock(segment);
            }
            waiting.add(place, task);
        }

        private int firstWithoutLock(int segment) {
            for (int i = 0; i < waiting.size(); i++) {
                Task other = waiting.get(i);
                if (other.waitsFor == segment && other.locks[segment] == NONE) {
                    return i;
                }
            }
            return waiting.size();
        }

        private void leave(Task task) {
            int place = placeOf(task);
            if (place < waiting.size()) {
                waiting.remove(place);
            }
        }

        private int placeOf(Task task) {
            for (int i = 0; i < waiting.size(); i++) {
                if (waiting.get(i) == task) {
                    return i;
                }
            }
            return waiting.size();
        }

        private Task first(int segment) {
            for (int i = 0; i < waiting.size(); i++) {
                if (waiting.get(i).waitsFor == segment) {
                    return waiting.get(i);
                }
            }
            return null;
        }

        private boolean isAhead(int place, Task task) {
            return place < waiting.size() && waiting.get(place).waitsFor == task.waitsFor;
        }

        private int countAhead(Task task) {
            if (task.state != WAITS) {
                return 0;
            }
            int end = placeOf(task);
            int count = 0;
            for (int i = 0; i < end; i++) {
                if (isAhead(i, task)) {
                    count++;
                }
            }
            return count;
        }

        private void markAhead(Task task, boolean[] marks) {
            int end = placeOf(task);
            for (int i = 0; i < end; i++) {
                int index = waiting.get(i).number - 1;
                if (isAhead(i, task) && index >= 0 && index < marks.length) {
                    marks[index] = true;
                }
            }
        }
    }

    /** Looks for rings of waiting tasks, and has the one that was found latest. */
    private static final class Rings {
        private final ArrayList<Task> members = new ArrayList<Task>();
        private final ArrayList<Task> reached = new ArrayList<Task>();
        private final int[] reachedFrom = new int[MOST_TASKS];
        private final boolean[] isReached = new boolean[MOST_TASKS];
        private final boolean[] blocks = new boolean[MOST_TASKS];

        private int member(int i) {
            return i >= 0 && i < members.size() ? members.get(i).number : 0;
        }

        private Task youngest(Task first) {
            Task youngest = first;
            for (int i = 0; i < members.size(); i++) {
                if (members.get(i).isYounger(youngest)) {
                    youngest = members.get(i);
                }
            }
            return youngest;
        }

        /** Level by level from the start, so that the first way back to it is the shortest. */
        private boolean search(ArrayList<Task> tasks, Rows rows, Task start) {
            begin(start);
            for (int from = 0; from < MOST_TASKS && from < reached.size(); from++) {
                markBlockers(tasks, rows, reached.get(from));
                if (reachBlockers(tasks, from, start)) {
                    keepWayTo(from);
                    return true;
                }
            }
            return false;
        }

        private void begin(Task start) {
            for (int i = 0; i < MOST_TASKS; i++) {
                isReached[i] = false;
            }
            reachedFrom[0] = 0;
            reached.clear();
            reached.add(start);
        }

        private void markBlockers(ArrayList<Task> tasks, Rows rows, Task blocked) {
            int segment = blocked.waitsFor;
            for (int i = 0; i < MOST_TASKS; i++) {
                blocks[i] = false;
            }
            if (!isSegment(segment)) {
                return;
            }
            for (int i = 0; i < MOST_TASKS && i < tasks.size(); i++) {
                Task other = tasks.get(i);
                blocks[i] = other != blocked && !areTogether(other.locks[segment], blocked.wish);
            }
            rows.markAhead(blocked, blocks);
        }

        /** Whether the start is among those that are reached. */
        private boolean reachBlockers(ArrayList<Task> tasks, int from, Task start) {
            for (int i = 0; i < MOST_TASKS && i < tasks.size(); i++) {
                Task other = tasks.get(i);
                if (!blocks[i] || isReached[i]) {
                    continue;
                }
                if (other == start) {
                    return true;
                }
                isReached[i] = true;
                if (reached.size() < MOST_TASKS) {
                    reachedFrom[reached.size()] = from;
                    reached.add(other);
                }
            }
            return false;
        }

        private void keepWayTo(int last) {
            members.clear();
            int count = Math.min(reached.size(), MOST_TASKS);
            int at = last;
            for (int step = 0; step < count && at > 0 && at < count; step++) {
                members.add(0, reached.get(at));
                at = reachedFrom[at];
            }
            if (count > 0) {
                members.add(0, reached.get(0));
            }
        }
    }
}
