/** Runs of calls for each promise, written out by hand: ordinary inputs, edges, wrong inputs. */
public final class PromiseTest {
    private static final long ARGUMENT = 1_000_001L;
    private static final long STATE = 1_000_002L;
    private static final int[] WRONG_TASKS = {0, -1, 31, Integer.MIN_VALUE, Integer.MAX_VALUE};
    private static final int[] WRONG_SEGMENTS = {-1, 50, Integer.MIN_VALUE, Integer.MAX_VALUE};

    private static int wrong = 0;

    private static void due(String what, long got, long want) {
        if (got != want) {
            wrong++;
            System.out.println(what + " answered " + got + ", due is " + want);
        }
    }

    private static void due(String what, boolean got, boolean want) {
        due(what, got ? 1L : 0L, want ? 1L : 0L);
    }

    private static long read(SegmentLocks x, int task, int segment) {
        try {
            return x.read(task, segment);
        } catch (IllegalArgumentException e) {
            return ARGUMENT;
        } catch (IllegalStateException e) {
            return STATE;
        }
    }

    private static long value(SegmentLocks x, int segment) {
        try {
            return x.value(segment);
        } catch (IllegalArgumentException e) {
            return ARGUMENT;
        }
    }

    /** Tasks 1 .. n of ages 1 .. n. */
    private static SegmentLocks withTasks(int n) {
        SegmentLocks x = new SegmentLocks();
        for (int i = 1; i <= n; i++) {
            x.task(i);
        }
        return x;
    }

    /** The task writes the segment and is at a syncpoint. */
    private static void agree(SegmentLocks x, int task, int segment, long v) {
        x.ask(task, segment, 2);
        x.write(task, segment, v);
        x.sync(task);
    }

    private static void promise1New() {
        SegmentLocks x = new SegmentLocks();
        for (int s = 0; s < 50; s++) {
            due("1 value of a new object", value(x, s), 0);
            due("1 holder of a new object", x.holder(s), 0);
        }
        due("1 no task", x.state(1, 0), SegmentLocks.NONE);
        due("1 no limit", x.limit(0), 0);
        due("1 no ring", x.ring(0), 0);
        due("1 serial", x.serial(), true);
        due("1 NONE", SegmentLocks.NONE, -1);
        agree(withTasks(1), 1, 0, 5);
        due("1 objects share nothing", value(x, 0), 0);
    }

    private static void promise2Task() {
        SegmentLocks x = new SegmentLocks();
        int[] ages = {0, -7, Integer.MIN_VALUE, Integer.MAX_VALUE, 3};
        for (int i = 1; i <= 30; i++) {
            due("2 number", x.task(ages[i % ages.length]), i);
            due("2 a new task is active", x.state(i, 0), 0);
            due("2 the next is none yet", x.state(i + 1, 0), -1);
        }
        due("2 no room", x.task(1), SegmentLocks.NONE);
        due("2 the dead keep their numbers", x.dead(30), 0);
        due("2 no room still", x.task(1), SegmentLocks.NONE);
        due("2 no 31st", x.state(31, 0), -1);
    }

    private static void promise3Together() {
        int[][] granted = {{1, 1, 0}, {1, 0, 0}, {0, 0, 0}};
        for (int first = 0; first < 3; first++) {
            for (int second = 0; second < 3; second++) {
                SegmentLocks x = withTasks(2);
                due("3 first", x.ask(1, 49, first), 1);
                due("3 second " + first + " " + second, x.ask(2, 49, second), granted[first][second]);
                due("3 state", x.state(2, 0), 1 - granted[first][second]);
                due("3 other segment", x.ask(1, 48, second), 1);
            }
        }
    }

    private static void promise3Stronger() {
        SegmentLocks x = withTasks(3);
        due("3 read", x.ask(1, 0, 0), 1);
        due("3 read again", x.ask(1, 0, 0), 1);
        due("3 stronger", x.ask(1, 0, 1), 1);
        due("3 one lock", x.state(1, 1), 1);
        due("3 weaker", x.ask(1, 0, 0), 1);
        due("3 stays stronger", x.write(1, 0, 1), 1);
        due("3 read beside update", x.ask(2, 0, 0), 1);
        due("3 third waits", x.ask(3, 0, 2), 0);
        due("3 as it is, though one waits", x.ask(2, 0, 0), 1);
        SegmentLocks y = withTasks(3);
        y.ask(1, 0, 0);
        due("3 exclusive waits", y.ask(2, 0, 2), 0);
        due("3 no overtaking", y.ask(3, 0, 0), 0);
        due("3 a stronger one needs no look at the row", y.ask(1, 0, 2), 1);
        due("3 row as it was", y.state(3, 5), 1);
    }

    private static void promise3Row() {
        SegmentLocks x = withTasks(6);
        x.ask(1, 7, 0);
        x.ask(2, 7, 0);
        x.ask(6, 7, 0);
        due("3 at the end", x.ask(3, 7, 2), 0);
        due("3 at the end", x.ask(4, 7, 0), 0);
        due("3 with a lock ahead of those without", x.ask(1, 7, 2), 0);
        due("3 first", x.state(1, 5), 0);
        due("3 then 3", x.state(3, 5), 1);
        due("3 then 4", x.state(4, 5), 2);
        due("3 two with locks: a ring, the younger one is restarted", x.ask(2, 7, 2), -1);
        due("3 without a lock again it is last", x.ask(2, 7, 0), 0);
        due("3 last", x.state(2, 5), 3);
        due("3 the lock of 6 goes, 1 is granted", x.sync(6), 0);
        due("3 granted", x.state(1, 0), 0);
        due("3 holder", x.holder(7), 1);
        due("3 still waits", x.state(3, 0), 1);
        due("3 all go", x.checkpoint(1), 1);
        due("3 granted is the first alone", x.state(3, 0), 0);
        due("3 behind it", x.state(4, 0), 1);
        x.sync(3);
        due("3 readers together", x.state(4, 0) + x.state(2, 0), 0);
    }

    private static void promise3BehindThoseWithLocks() {
        SegmentLocks x = withTasks(5);
        for (int t = 1; t <= 4; t++) {
            x.ask(t, 0, 0);
        }
        due("3 update beside reads", x.ask(4, 0, 1), 1);
        due("3 no lock, waits", x.ask(5, 0, 1), 0);
        due("3 update waits for update", x.ask(3, 0, 1), 0);
        due("3 behind the one with a lock", x.ask(2, 0, 1), 0);
        due("3 place of 3", x.state(3, 5), 0);
        due("3 place of 2", x.state(2, 5), 1);
        due("3 place of 5", x.state(5, 5), 2);
    }

    private static void promise3WithoutLock() {
        SegmentLocks x = withTasks(2);
        x.ask(1, 0, 2);
        due("3 option 3 beside exclusive", x.ask(2, 0, 3), 1);
        due("3 option 3 again", x.ask(2, 0, 3), 1);
        due("3 still active", x.state(2, 0), 0);
        due("3 takes no lock", x.state(2, 1), 0);
        due("3 no holder by it", x.ask(2, 1, 3) + x.holder(1), 1);
        due("3 may read", read(x, 2, 0), 0);
        due("3 can't write", x.write(2, 0, 1), 0);
        x.sync(2);
        due("3 gone at the syncpoint", read(x, 2, 0), STATE);
        x.ask(2, 0, 3);
        x.checkpoint(2);
        due("3 gone at the checkpoint", read(x, 2, 0), STATE);
        x.ask(2, 0, 3);
        x.backout(2);
        due("3 gone when backed out", read(x, 2, 0), STATE);
        due("3 no limit on it", x.limit(1) + x.ask(2, 5, 0) + x.ask(2, 6, 3), 2);
    }

    private static void promise3Refusals() {
        SegmentLocks x = withTasks(2);
        for (int t : WRONG_TASKS) {
            due("3 no task", x.ask(t, -1, 9), -2);
        }
        for (int s : WRONG_SEGMENTS) {
            due("3 no segment", x.ask(1, s, 0), -4);
            due("3 no segment to look at", x.ask(1, s, 3), -4);
        }
        for (int o : new int[] {-1, 4, Integer.MIN_VALUE, Integer.MAX_VALUE}) {
            due("3 no option", x.ask(1, 0, o), -4);
        }
        x.ask(1, 0, 2);
        x.ask(2, 0, 0);
        due("3 waits", x.ask(2, 1, 0), -5);
        due("3 waits, option 3", x.ask(2, 1, 3), -5);
        due("3 outside goes ahead of not active", x.ask(2, 50, 0), -4);
        x.dead(1);
        due("3 dead", x.ask(1, 1, 0), -5);
    }

    private static void promise3Limit() {
        SegmentLocks x = withTasks(3);
        x.limit(2);
        due("3 one", x.ask(1, 0, 0), 1);
        due("3 two", x.ask(1, 1, 1), 1);
        x.write(1, 1, 8);
        due("3 stronger is no other one", x.ask(1, 0, 2), 1);
        due("3 2 waits", x.ask(2, 0, 0), 0);
        due("3 one too many", x.ask(1, 2, 0), -3);
        due("3 dead", x.state(1, 0), 2);
        due("3 no locks", x.state(1, 1), 0);
        due("3 its write is gone", x.state(1, 2) + value(x, 1), 0);
        due("3 2 is granted", x.state(2, 0), 0);
        x.ask(3, 5, 2);
        x.ask(2, 6, 0);
        due("3 too many, though it would wait", x.ask(2, 5, 0), -3);
        due("3 no one waits there", x.ask(3, 5, 2), 1);
    }

    private static void promise4Write() {
        SegmentLocks x = withTasks(2);
        for (int t : WRONG_TASKS) {
            due("4 no task", x.write(t, -1, 1), -2);
        }
        for (int s : WRONG_SEGMENTS) {
            due("4 no segment", x.write(1, s, 1), -4);
        }
        due("4 no lock", x.write(1, 0, 1), 0);
        x.ask(1, 0, 0);
        due("4 read lock", x.write(1, 0, 1), 0);
        due("4 nothing was written", x.state(1, 2), 0);
        x.ask(1, 0, 1);
        due("4 update lock", x.write(1, 0, Long.MIN_VALUE), 1);
        x.ask(1, 1, 2);
        due("4 exclusive lock", x.write(1, 1, Long.MAX_VALUE), 1);
        due("4 written again", x.write(1, 1, -3), 1);
        due("4 two segments", x.state(1, 2), 2);
        due("4 not agreed yet", value(x, 0) + value(x, 1), 0);
        x.ask(2, 1, 0);
        due("4 waits", x.write(2, 1, 1), -5);
        due("4 outside goes ahead of not active", x.write(2, -1, 1), -4);
        x.sync(1);
        due("4 agreed", value(x, 0), Long.MIN_VALUE);
        due("4 the latest of its writes", value(x, 1), -3);
        x.dead(1);
        due("4 dead", x.write(1, 1, 1), -5);
    }

    private static void promise5Read() {
        SegmentLocks x = withTasks(4);
        agree(x, 1, 0, 4);
        x.ask(1, 0, 1);
        x.write(1, 0, 5);
        due("5 its own write", read(x, 1, 0), 5);
        x.ask(2, 0, 0);
        due("5 a lock: the agreed number", read(x, 2, 0), 4);
        x.ask(3, 0, 3);
        due("5 option 3: the other's write", read(x, 3, 0), 5);
        x.write(1, 0, 6);
        due("5 option 3: the latest", read(x, 3, 0), 6);
        x.ask(3, 0, 0);
        due("5 option 3 and a lock: the agreed number", read(x, 3, 0), 4);
        x.ask(4, 0, 3);
        x.backout(1);
        due("5 no one keeps it any more", read(x, 4, 0), 4);
        due("5 neither lock nor option 3", read(x, 1, 0), STATE);
        due("5 neither there", read(x, 4, 1), STATE);
        for (int t : WRONG_TASKS) {
            due("5 no task", read(x, t, 0), ARGUMENT);
        }
        for (int s : WRONG_SEGMENTS) {
            due("5 no segment", read(x, 4, s), ARGUMENT);
        }
        x.ask(4, 0, 2);
        due("5 waits", read(x, 4, 0), STATE);
        due("5 no segment goes ahead of not active", read(x, 4, 50), ARGUMENT);
        x.dead(2);
        due("5 dead", read(x, 2, 0), STATE);
    }

    private static void promise6Sync() {
        SegmentLocks x = withTasks(3);
        for (int t : WRONG_TASKS) {
            due("6 no task", x.sync(t), -2);
        }
        due("6 nothing written", x.sync(1), 0);
        for (int s = 0; s < 50; s++) {
            x.ask(1, s, 1 + s % 2);
            x.write(1, s, s + 100);
            x.write(1, s, s + 1);
        }
        due("6 waits for it", x.ask(2, 1, 0), 0);
        due("6 waits for it", x.ask(3, 0, 2), 0);
        due("6 a waiting one has none", x.sync(2), -5);
        due("6 fifty segments", x.sync(1), 50);
        for (int s = 0; s < 50; s++) {
            due("6 agreed", value(x, s), s + 1);
        }
        due("6 no locks", x.state(1, 1), 0);
        due("6 nothing kept", x.state(1, 2), 0);
        due("6 active", x.state(1, 0), 0);
        due("6 granted", x.state(2, 0) + x.state(3, 0), 0);
        due("6 sees what was agreed", read(x, 2, 1), 2);
        due("6 nothing more", x.sync(1), 0);
        x.dead(1);
        due("6 dead", x.sync(1), -5);
    }

    private static void promise7Backout() {
        SegmentLocks x = withTasks(3);
        for (int t : WRONG_TASKS) {
            due("7 no task", x.backout(t), -2);
        }
        x.ask(1, 0, 2);
        x.ask(1, 1, 2);
        x.write(1, 0, 3);
        x.write(1, 1, 3);
        x.ask(2, 2, 2);
        x.write(2, 2, 9);
        x.ask(2, 0, 0);
        x.ask(3, 0, 0);
        due("7 a waiting one", x.backout(2), 1);
        due("7 active", x.state(2, 0), 0);
        due("7 waits for none", x.state(2, 4), -1);
        due("7 no lock", x.holder(2) + x.state(2, 1), 0);
        due("7 no restart", x.state(2, 3), 0);
        due("7 3 moves up", x.state(3, 5), 0);
        due("7 two segments", x.backout(1), 2);
        due("7 not agreed", value(x, 0) + value(x, 1) + value(x, 2), 0);
        due("7 3 is granted", x.state(3, 0), 0);
        due("7 2 isn't there", x.state(2, 1), 0);
        due("7 nothing more", x.backout(1), 0);
        x.dead(1);
        due("7 dead", x.backout(1), -5);
        due("7 stays dead", x.state(1, 0), 2);
    }

    private static void promise8Ring() {
        SegmentLocks x = withTasks(4);
        for (int t = 1; t <= 3; t++) {
            x.ask(t, t, 2);
        }
        x.ask(1, 2, 0);
        x.ask(2, 3, 0);
        due("8 none yet", x.ring(0), 0);
        due("8 3 is the youngest", x.ask(3, 1, 0), -1);
        int[] ring = {3, 1, 2};
        for (int i = 0; i < 3; i++) {
            due("8 from the one on that came to wait", x.ring(i), ring[i]);
        }
        for (int i : new int[] {3, -1, Integer.MIN_VALUE, Integer.MAX_VALUE}) {
            due("8 outside", x.ring(i), 0);
        }
        due("8 restarted", x.state(3, 3), 1);
        due("8 2 is granted", x.state(2, 0), 0);
        due("8 1 waits", x.state(1, 0), 1);
        due("8 no new ring", x.ask(4, 1, 0), 0);
        due("8 the latest one stays", x.ring(0), 3);
        due("8 a shorter one", x.ask(2, 1, 0), -1);
        due("8 ring of two", x.ring(0) * 10 + x.ring(1), 21);
        due("8 not longer", x.ring(2), 0);
    }

    private static void promise8Youngest() {
        SegmentLocks x = new SegmentLocks();
        x.task(Integer.MAX_VALUE);
        x.task(Integer.MIN_VALUE);
        x.ask(1, 0, 2);
        x.write(1, 0, 5);
        x.ask(2, 1, 2);
        x.ask(1, 1, 2);
        due("8 the other is restarted, it is granted", x.ask(2, 0, 0), 1);
        due("8 ring", x.ring(0) * 10 + x.ring(1), 21);
        due("8 1 was restarted", x.state(1, 3) * 10 + x.state(2, 3), 10);
        due("8 its writes are gone", x.state(1, 2), 0);
        due("8 its locks too", x.state(1, 1), 0);
        due("8 it waits no more", x.state(1, 4), -1);
        due("8 it is active", x.state(1, 0), 0);
        SegmentLocks y = new SegmentLocks();
        y.task(4);
        y.task(4);
        y.ask(1, 0, 2);
        y.ask(2, 1, 2);
        y.ask(2, 0, 2);
        due("8 of equal ages the greater number", y.ask(1, 1, 2), 1);
        due("8 2 was restarted", y.state(2, 3), 1);
    }

    private static void promise8RestartedIsBackedOut() {
        SegmentLocks x = withTasks(2);
        x.ask(1, 0, 2);
        x.ask(2, 1, 2);
        x.ask(2, 5, 3);
        due("8 reads without a lock", read(x, 2, 5), 0);
        x.ask(1, 1, 2);
        due("8 restarted", x.ask(2, 0, 2), -1);
        due("8 what it might look at is gone", read(x, 2, 5), STATE);
        agree(x, 1, 5, 3);
        x.sync(2);
        due("8 what it had read is forgotten", x.serial(), true);
    }

    /** 4 waits for two with reads; the ring by the lesser number is broken first, then the other. */
    private static void promise8AgainAndByNumbers() {
        SegmentLocks x = new SegmentLocks();
        x.task(1);
        x.task(8);
        x.task(9);
        x.task(5);
        x.ask(4, 9, 2);
        x.ask(2, 0, 0);
        x.ask(3, 0, 0);
        x.ask(3, 9, 0);
        x.ask(2, 9, 0);
        due("8 both are restarted", x.ask(4, 0, 2), 1);
        due("8 each once", x.state(2, 3) * 10 + x.state(3, 3), 11);
        due("8 the latest ring is the one with 3", x.ring(0) * 10 + x.ring(1), 43);
        due("8 4 was not", x.state(4, 3), 0);
    }

    /** The one ahead in the row blocks, though its lock would be together. */
    private static void promise8RowBlocks() {
        SegmentLocks x = withTasks(3);
        x.ask(1, 0, 0);
        x.ask(3, 1, 2);
        due("8 waits", x.ask(2, 0, 2), 0);
        due("8 behind it", x.ask(3, 0, 0), 0);
        due("8 3 goes, it is granted", x.ask(1, 1, 0), 1);
        int[] ring = {1, 3, 2};
        for (int i = 0; i < 3; i++) {
            due("8 ring by the row", x.ring(i), ring[i]);
        }
        due("8 3 was restarted but is blocked no more", x.state(3, 0), 0);
        due("8 1 is granted", x.state(1, 0), 0);
        due("8 2 waits still", x.state(2, 0), 1);
    }

    private static void promise9Checkpoint() {
        SegmentLocks x = withTasks(2);
        for (int t : WRONG_TASKS) {
            due("9 no task", x.checkpoint(t), -2);
        }
        due("9 no locks", x.checkpoint(1), 0);
        x.ask(1, 0, 2);
        x.ask(1, 1, 0);
        x.ask(1, 2, 1);
        x.ask(1, 3, 3);
        x.write(1, 0, 6);
        x.ask(2, 0, 0);
        due("9 waits", x.checkpoint(2), -5);
        due("9 three locks", x.checkpoint(1), 3);
        due("9 agreed", value(x, 0), 6);
        due("9 granted", x.state(2, 0), 0);
        due("9 no locks", x.state(1, 1), 0);
        due("9 nothing written", x.state(1, 2), 0);
        x.dead(1);
        due("9 dead", x.checkpoint(1), -5);
    }

    private static void promise10Dead() {
        SegmentLocks x = withTasks(4);
        for (int t : WRONG_TASKS) {
            due("10 no task", x.dead(t), -2);
        }
        x.ask(1, 0, 2);
        x.ask(1, 1, 0);
        x.write(1, 0, 4);
        x.ask(2, 5, 0);
        x.ask(2, 0, 2);
        x.ask(3, 0, 0);
        due("10 a waiting one: its one lock", x.dead(2), 1);
        due("10 it waits no more", x.state(2, 4), -1);
        due("10 3 moves up", x.state(3, 5), 0);
        due("10 two locks", x.dead(1), 2);
        due("10 state", x.state(1, 0), 2);
        due("10 no locks, no writes", x.state(1, 1) + x.state(1, 2), 0);
        due("10 not agreed", value(x, 0), 0);
        due("10 3 is granted", x.state(3, 0) + x.holder(0), 3);
        due("10 was dead", x.dead(1), 0);
        due("10 without locks", x.dead(4), 0);
        due("10 dead all the same", x.state(4, 0), 2);
    }

    private static void promise11Limit() {
        SegmentLocks x = withTasks(3);
        due("11 below 0", x.limit(-1), -4);
        due("11 below 0", x.limit(Integer.MIN_VALUE), -4);
        due("11 nothing was set", x.limit(Integer.MAX_VALUE), 0);
        due("11 what it was", x.limit(3), Integer.MAX_VALUE);
        for (int s = 0; s < 3; s++) {
            due("11 up to it", x.ask(1, s, 0), 1);
        }
        due("11 2", x.ask(2, 9, 0), 1);
        due("11 3 locks 5", x.ask(3, 5, 2), 1);
        due("11 2 waits", x.ask(2, 5, 0), 0);
        due("11 less", x.limit(1), 3);
        due("11 those that are there stay", x.state(1, 1), 3);
        due("11 stronger all the same", x.ask(1, 0, 2), 1);
        due("11 asked again all the same", x.ask(1, 1, 0), 1);
        x.sync(3);
        due("11 granted in any case", x.state(2, 0) * 10 + x.state(2, 1), 2);
        due("11 no other one", x.ask(2, 6, 0), -3);
        due("11 no limit", x.limit(0), 1);
        for (int s = 10; s < 50; s++) {
            due("11 as many as it likes", x.ask(1, s, 2), 1);
        }
        due("11 all of them", x.state(1, 1), 43);
    }

    private static void promise12Holder() {
        SegmentLocks x = withTasks(4);
        for (int s : WRONG_SEGMENTS) {
            due("12 no segment", x.holder(s), -4);
        }
        due("12 none", x.holder(0), 0);
        x.ask(3, 0, 0);
        due("12 one", x.holder(0), 3);
        x.ask(2, 0, 0);
        due("12 the least number", x.holder(0), 2);
        x.ask(4, 0, 1);
        due("12 the strongest", x.holder(0), 4);
        x.ask(1, 0, 2);
        due("12 not the one that waits", x.holder(0), 4);
        x.sync(4);
        due("12 the least again", x.holder(0), 2);
        x.sync(2);
        x.sync(3);
        due("12 the one that waited", x.holder(0), 1);
        due("12 not another segment", x.holder(49), 0);
    }

    private static void promise13InOrder() {
        SegmentLocks x = withTasks(2);
        x.ask(1, 0, 2);
        due("13 reads", read(x, 1, 0), 0);
        x.write(1, 0, 5);
        due("13 reads its own", read(x, 1, 0), 5);
        x.sync(1);
        due("13 just ahead of its own writes", x.serial(), true);
        x.ask(2, 0, 3);
        due("13 option 3 sees the agreed one", read(x, 2, 0), 5);
        x.sync(2);
        due("13 nothing came between", x.serial(), true);
        agree(x, 1, 0, 6);
        due("13 what was read is forgotten at the syncpoint", x.sync(2), 0);
        due("13 still", x.serial(), true);
        x.ask(2, 0, 3);
        read(x, 2, 0);
        agree(x, 1, 0, 6);
        x.sync(2);
        due("13 the same number is agreed", x.serial(), true);
    }

    private static void promise13NotInOrder() {
        SegmentLocks x = withTasks(2);
        x.ask(2, 0, 3);
        read(x, 2, 0);
        agree(x, 1, 0, 6);
        due("13 not yet", x.serial(), true);
        x.checkpoint(2);
        due("13 another number is agreed", x.serial(), false);
        x.sync(2);
        due("13 it stays so", x.serial(), false);
        SegmentLocks y = withTasks(2);
        y.ask(1, 0, 2);
        y.write(1, 0, 4);
        y.ask(2, 0, 3);
        read(y, 2, 0);
        y.backout(1);
        y.sync(2);
        due("13 it saw what was never agreed", y.serial(), false);
        SegmentLocks z = withTasks(2);
        z.ask(1, 0, 2);
        z.write(1, 0, 4);
        z.ask(2, 0, 3);
        read(z, 2, 0);
        z.sync(1);
        z.sync(2);
        due("13 it saw what was agreed only later", z.serial(), false);
    }

    private static void promise13EachRead() {
        SegmentLocks x = withTasks(2);
        x.ask(2, 0, 3);
        read(x, 2, 0);
        agree(x, 1, 0, 6);
        read(x, 2, 0);
        agree(x, 1, 0, 0);
        x.sync(2);
        due("13 the second read saw another number", x.serial(), false);
        SegmentLocks w = withTasks(2);
        w.ask(2, 0, 3);
        read(w, 2, 0);
        agree(w, 1, 0, 6);
        read(w, 2, 0);
        w.sync(2);
        due("13 the first read saw another number", w.serial(), false);
        SegmentLocks y = withTasks(2);
        y.ask(2, 0, 3);
        read(y, 2, 0);
        agree(y, 1, 0, 6);
        y.backout(2);
        y.sync(2);
        due("13 backed out work has read nothing", y.serial(), true);
        y.ask(1, 0, 2);
        y.write(1, 0, 7);
        y.ask(2, 0, 3);
        due("13 sees the other's write", read(y, 2, 0), 7);
        y.backout(2);
        y.sync(2);
        due("13 backed out work has seen nothing", y.serial(), true);
        SegmentLocks z = withTasks(2);
        z.ask(2, 0, 3);
        read(z, 2, 0);
        agree(z, 1, 0, 6);
        z.dead(2);
        due("13 the dead have no syncpoint", z.serial(), true);
    }

    private static void promise14Value() {
        SegmentLocks x = withTasks(1);
        for (int s : WRONG_SEGMENTS) {
            due("14 no segment", value(x, s), ARGUMENT);
        }
        agree(x, 1, 0, Long.MAX_VALUE);
        agree(x, 1, 49, Long.MIN_VALUE);
        due("14 first", value(x, 0), Long.MAX_VALUE);
        due("14 last", value(x, 49), Long.MIN_VALUE);
        due("14 another", value(x, 1), 0);
        x.ask(1, 0, 2);
        x.write(1, 0, 1);
        due("14 not what is kept", value(x, 0), Long.MAX_VALUE);
    }

    private static void promise15State() {
        SegmentLocks x = withTasks(4);
        int[] fresh = {0, 0, 0, 0, -1, 0};
        for (int what = 0; what < 6; what++) {
            due("15 new, what = " + what, x.state(1, what), fresh[what]);
        }
        for (int what : new int[] {-1, 6, Integer.MIN_VALUE, Integer.MAX_VALUE}) {
            due("15 other what", x.state(1, what), -1);
        }
        for (int t : WRONG_TASKS) {
            for (int what = -1; what < 7; what++) {
                due("15 no task", x.state(t, what), -1);
            }
        }
        x.ask(1, 49, 2);
        x.ask(2, 1, 2);
        x.ask(2, 2, 0);
        x.write(2, 1, 1);
        x.ask(1, 48, 2);
        x.ask(4, 48, 2);
        x.ask(3, 49, 0);
        x.ask(2, 49, 0);
        int[] waits = {1, 2, 1, 0, 49, 1};
        for (int what = 0; what < 6; what++) {
            due("15 waiting, what = " + what, x.state(2, what), waits[what]);
        }
        x.ask(1, 1, 0);
        int[] restarted = {0, 0, 0, 1, -1, 0};
        for (int what = 0; what < 6; what++) {
            due("15 restarted, what = " + what, x.state(2, what), restarted[what]);
        }
        x.dead(2);
        due("15 dead", x.state(2, 0), 2);
        due("15 dead, but it was restarted", x.state(2, 3), 1);
        due("15 the dead wait for none", x.state(2, 4), -1);
    }

    /** The example in README.md, call by call. */
    private static void readmeExample() {
        SegmentLocks locks = new SegmentLocks();
        int old = locks.task(1);
        due("README number of the first", old, 1);
        int young = locks.task(2);
        due("README number of the second", young, 2);
        due("README ask(old, 0, 2)", locks.ask(old, 0, 2), 1);
        due("README ask(young, 1, 2)", locks.ask(young, 1, 2), 1);
        due("README write(old, 0, 42)", locks.write(old, 0, 42L), 1);
        due("README ask(old, 1, 0)", locks.ask(old, 1, 0), 0);
        due("README ask(young, 0, 0)", locks.ask(young, 0, 0), -1);
        due("README ring(0)", locks.ring(0), 2);
        due("README ring(1)", locks.ring(1), 1);
        due("README state(old, 0)", locks.state(old, 0), 0);
        due("README sync(old)", locks.sync(old), 1);
        due("README value(0)", value(locks, 0), 42);
        due("README serial()", locks.serial(), true);
    }

    public static void main(String[] args) {
        readmeExample();
        promise1New();
        promise2Task();
        promise3Together();
        promise3Stronger();
        promise3Row();
        promise3BehindThoseWithLocks();
        promise3WithoutLock();
        promise3Refusals();
        promise3Limit();
        promise4Write();
        promise5Read();
        promise6Sync();
        promise7Backout();
        promise8Ring();
        promise8Youngest();
        promise8RestartedIsBackedOut();
        promise8AgainAndByNumbers();
        promise8RowBlocks();
        promise9Checkpoint();
        promise10Dead();
        promise11Limit();
        promise12Holder();
        promise13InOrder();
        promise13NotInOrder();
        promise13EachRead();
        promise14Value();
        promise15State();
        System.out.println(wrong == 0 ? "all answers are as due" : wrong + " answers are not as due");
        if (wrong != 0) {
            System.exit(1);
        }
    }
}
