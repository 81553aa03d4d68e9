/** A test for each boundary case that a sentence of the promises 1 to 15 names. */
public final class PromiseBoundaryTest extends Boundary {
    /** Task 2 waits for task 1, on segment 0. */
    private static void makeWait(SegmentLocks x) {
        due(x.ask(1, 0, 2), 1);
        due(x.ask(2, 0, 2), 0);
    }

    private static void promise1() {
        test("Promise 1: No tasks", 0, x -> {
            for (int t : NO_TASKS) {
                due(x.state(t, 0), NONE);
                due(x.sync(t), -2);
            }
            due(x.state(1, 0), NONE);
            due(x.ask(1, 0, 0), -2);
            for (int s = 0; s < 50; s++) {
                due(x.holder(s), 0);
            }
        });
        test("Promise 1: no limit: all 50 locks", 1, x -> {
            lockAll(x, 1, 2);
            due(x.state(1, 1), 50);
            due(x.limit(0), 0);
        });
        test("Promise 1: all agreed numbers 0", 0, x -> {
            for (int s = 0; s < 50; s++) {
                due(value(x, s), 0);
            }
        });
        test("Promise 1: A new object has nothing of another one", 1, x -> {
            agree(x, 1, 0, 5);
            x.limit(1);
            x.ask(1, 0, 2);
            SegmentLocks y = new SegmentLocks();
            due(y.state(1, 0), NONE);
            due(value(y, 0), 0);
            due(y.holder(0), 0);
            due(y.limit(0), 0);
        });
        test("Promise 1: no syncpoint, no ring yet", 0, x -> {
            due(x.serial(), true);
            due(x.ring(0), 0);
        });
    }

    private static void promise2() {
        test("Promise 2: A new task of an age: its number: 1 to 30", 0, x -> {
            int[] ages = {0, -1, LEAST, GREATEST};
            for (int t = 1; t <= 30; t++) {
                due(x.task(ages[t % 4]), t);
                dueStates(x, t, 0, 0, 0, 0, NONE, 0);
            }
        });
        test("Promise 2: NONE when there are 30", 30, x -> {
            due(x.task(0), NONE);
            due(x.task(GREATEST), NONE);
            due(x.task(LEAST), NONE);
            due(x.state(31, 0), NONE);
            due(x.state(30, 0), 0);
        });
        test("Promise 2: NONE when there are 30: the dead ones count", 30, x -> {
            for (int t = 1; t <= 30; t++) {
                x.dead(t);
            }
            due(x.task(1), NONE);
            due(x.state(1, 0), 2);
        });
        test("Promise 2: a dead one's number is not given again", 2, x -> {
            x.dead(2);
            due(x.task(1), 3);
            due(x.state(2, 0), 2);
            due(x.state(3, 0), 0);
        });
    }

    private static void promise3() {
        test("Promise 3: 1 granted", 1, x -> {
            due(x.ask(1, 0, 0), 1);
            due(x.ask(1, 25, 1), 1);
            due(x.ask(1, 49, 2), 1);
            dueStates(x, 1, 0, 3, 0, 0, NONE, 0);
        });
        test("Promise 3: 1 granted: when it came to wait, but a ring was broken", 2, x -> {
            due(cross(x, 2, 1), 1);
            due(x.state(1, 1), 2);
            due(x.holder(0), 1);
        });
        test("Promise 3: 1 (or option 3)", 2, x -> {
            x.ask(1, 0, 2);
            due(x.ask(2, 0, 3), 1);
            due(x.ask(2, 0, 3), 1);
            due(x.ask(1, 0, 3), 1);
            due(x.holder(0), 1);
        });
        test("Promise 3: 0 it waits", 2, x -> {
            makeWait(x);
            dueStates(x, 2, 1, 0, 0, 0, 0, 0);
        });
        test("Promise 3: 0 it waits: when a ring was broken, too", 3, x -> {
            x.ask(1, 1, 2);
            x.ask(3, 0, 0);
            x.ask(2, 0, 0);
            due(x.ask(3, 1, 0), 0);
            due(x.ask(1, 0, 2), 0);
            dueRing(x, 1, 3);
            due(x.state(1, 0), 1);
        });
        test("Promise 3: -1 it was restarted", 2, x -> {
            due(cross(x, 1, 2), -1);
            dueStates(x, 2, 0, 0, 0, 1, NONE, 0);
            dueStates(x, 1, 0, 2, 0, 0, NONE, 0);
        });
        test("Promise 3: -3 it would have more locks than the limit: one", 1, x -> {
            x.limit(1);
            due(x.ask(1, 49, 0), 1);
            due(x.ask(1, 0, 0), -3);
            due(x.state(1, 0), 2);
        });
        test("Promise 3: -3 it would have more locks than the limit: as many as it are none too many", 1, x -> {
            x.limit(49);
            for (int s = 0; s < 49; s++) {
                due(x.ask(1, s, 2), 1);
            }
            due(x.state(1, 1), 49);
            due(x.ask(1, 49, 2), -3);
        });
        test("Promise 3: -3 it would have more locks than the limit: a limit of 50 or more is never met", 2, x -> {
            x.limit(50);
            lockAll(x, 1, 0);
            x.limit(GREATEST);
            lockAll(x, 2, 0);
        });
        test("Promise 3: -3: each task has locks of its own", 2, x -> {
            x.limit(1);
            due(x.ask(1, 0, 0), 1);
            due(x.ask(2, 0, 0), 1);
            due(x.ask(2, 1, 0), -3);
            due(x.state(1, 0), 0);
        });
        test("Promise 3: -3: also when it would have to wait", 2, x -> {
            x.limit(1);
            x.ask(1, 0, 2);
            x.ask(2, 1, 2);
            due(x.ask(2, 0, 0), -3);
            dueStates(x, 2, 2, 0, 0, 0, NONE, 0);
        });
        test("Promise 3: -3: option 3 is no lock", 1, x -> {
            x.limit(1);
            due(x.ask(1, 0, 0), 1);
            due(x.ask(1, 1, 3), 1);
            due(x.ask(1, 2, 3), 1);
            due(x.state(1, 1), 1);
        });
        test("Promise 3: -3: after a syncpoint there is room again", 1, x -> {
            x.limit(1);
            due(x.ask(1, 0, 0), 1);
            x.sync(1);
            due(x.ask(1, 1, 0), 1);
        });
        test("Promise 3: it is dead (as by dead())", 2, x -> {
            x.limit(1);
            x.ask(1, 0, 2);
            x.write(1, 0, 4);
            due(x.ask(2, 0, 0), 0);
            due(x.ask(1, 1, 3), 1);
            due(x.ask(1, 1, 0), -3);
            dueStates(x, 1, 2, 0, 0, 0, NONE, 0);
            due(x.holder(0), 2);
            due(read(x, 2, 0), 0);
            due(read(x, 1, 1), STATE);
            due(x.dead(1), 0);
        });
        test("Promise 3: or refused: -2 no such task", 2, x -> {
            for (int t : NO_TASKS) {
                due(x.ask(t, 0, 0), -2);
                due(x.ask(t, 0, 3), -2);
            }
            due(x.ask(3, 0, 0), -2);
            due(x.holder(0), 0);
        });
        test("Promise 3: or refused: -4 a segment is outside", 1, x -> {
            for (int s : NO_SEGMENTS) {
                due(x.ask(1, s, 0), -4);
                due(x.ask(1, s, 3), -4);
            }
            due(x.state(1, 1), 0);
        });
        test("Promise 3: or refused: -4 an option is outside", 1, x -> {
            for (int option : new int[] {-1, 4, LEAST, GREATEST}) {
                due(x.ask(1, 0, option), -4);
            }
            due(x.state(1, 1), 0);
        });
        test("Promise 3: or refused: -5 the task is not active: it waits", 2, x -> {
            makeWait(x);
            for (int option = 0; option <= 3; option++) {
                due(x.ask(2, 0, option), -5);
                due(x.ask(2, 1, option), -5);
            }
            dueStates(x, 2, 1, 0, 0, 0, 0, 0);
        });
        test("Promise 3: or refused: -5 the task is not active: it is dead", 1, x -> {
            x.dead(1);
            for (int option = 0; option <= 3; option++) {
                due(x.ask(1, 0, option), -5);
            }
            due(x.holder(0), 0);
        });
    }

    private static void promise4() {
        test("Promise 4: A task writes: 1: with an update lock", 1, x -> {
            x.ask(1, 0, 1);
            due(x.write(1, 0, 5), 1);
            due(x.state(1, 2), 1);
        });
        test("Promise 4: A task writes: 1: with an exclusive lock", 1, x -> {
            x.ask(1, 49, 2);
            due(x.write(1, 49, 5), 1);
            due(x.state(1, 2), 1);
        });
        test("Promise 4: A task writes: 1: the least and the greatest long", 1, x -> {
            x.ask(1, 0, 1);
            due(x.write(1, 0, Long.MIN_VALUE), 1);
            due(read(x, 1, 0), Long.MIN_VALUE);
            due(x.write(1, 0, Long.MAX_VALUE), 1);
            due(read(x, 1, 0), Long.MAX_VALUE);
        });
        test("Promise 4: A task writes: 1: the same segment again", 1, x -> {
            x.ask(1, 0, 1);
            due(x.write(1, 0, 1), 1);
            due(x.write(1, 0, 2), 1);
            due(x.state(1, 2), 1);
            due(x.sync(1), 1);
            due(value(x, 0), 2);
        });
        test("Promise 4: 0 when it has no update or exclusive lock there: none", 2, x -> {
            x.ask(1, 1, 2);
            x.ask(2, 0, 2);
            due(x.write(1, 0, 5), 0);
            due(x.state(1, 2), 0);
            due(x.sync(1), 0);
        });
        test("Promise 4: 0 when it has no update or exclusive lock there: a read lock", 1, x -> {
            x.ask(1, 0, 0);
            due(x.write(1, 0, 5), 0);
            due(read(x, 1, 0), 0);
            due(x.state(1, 2), 0);
        });
        test("Promise 4: 0 when it has no update or exclusive lock there: option 3", 1, x -> {
            x.ask(1, 0, 3);
            due(x.write(1, 0, 5), 0);
            due(read(x, 1, 0), 0);
        });
        test("Promise 4: 0 when it has no update or exclusive lock there: it is gone", 1, x -> {
            x.ask(1, 0, 2);
            x.sync(1);
            due(x.write(1, 0, 5), 0);
            x.ask(1, 0, 2);
            x.checkpoint(1);
            due(x.write(1, 0, 5), 0);
            x.ask(1, 0, 2);
            x.backout(1);
            due(x.write(1, 0, 5), 0);
        });
        test("Promise 4: 0 when it has no update or exclusive lock there: it is gone by a restart", 2, x -> {
            due(cross(x, 1, 2), -1);
            due(x.write(2, 1, 5), 0);
        });
        test("Promise 4: or refused: -2 no such task", 2, x -> {
            for (int t : NO_TASKS) {
                due(x.write(t, 0, 1), -2);
            }
            due(x.write(3, 0, 1), -2);
        });
        test("Promise 4: or refused: -4 a segment is outside", 1, x -> {
            lockAll(x, 1, 2);
            for (int s : NO_SEGMENTS) {
                due(x.write(1, s, 1), -4);
            }
            due(x.state(1, 2), 0);
        });
        test("Promise 4: or refused: -5 the task is not active: it waits", 2, x -> {
            x.ask(2, 1, 2);
            makeWait(x);
            due(x.write(2, 1, 1), -5);
            due(x.write(2, 0, 1), -5);
            due(x.state(2, 2), 0);
        });
        test("Promise 4: or refused: -5 the task is not active: it is dead", 1, x -> {
            x.ask(1, 0, 2);
            x.dead(1);
            due(x.write(1, 0, 1), -5);
            due(x.state(1, 2), 0);
        });
    }

    private static void promise5() {
        test("Promise 5: its own write", 1, x -> {
            agree(x, 1, 0, 3);
            x.ask(1, 0, 3);
            x.ask(1, 0, 1);
            due(read(x, 1, 0), 3);
            x.write(1, 0, 4);
            due(read(x, 1, 0), 4);
            x.write(1, 0, 0);
            due(read(x, 1, 0), 0);
        });
        test("Promise 5: with option 3, what was written latest there", 2, x -> {
            x.ask(1, 0, 1);
            x.write(1, 0, 4);
            x.ask(2, 0, 3);
            due(read(x, 2, 0), 4);
            x.write(1, 0, Long.MIN_VALUE);
            due(read(x, 2, 0), Long.MIN_VALUE);
        });
        test("Promise 5: with option 3, written latest by any task: first by one, then by another", 30, x -> {
            x.ask(2, 0, 3);
            agree(x, 30, 0, 6);
            x.ask(1, 0, 2);
            x.write(1, 0, 7);
            due(read(x, 2, 0), 7);
            x.backout(1);
            x.ask(30, 0, 2);
            x.write(30, 0, 8);
            due(read(x, 2, 0), 8);
        });
        test("Promise 5: (and without a lock): with one it sees the agreed number", 2, x -> {
            x.ask(1, 0, 1);
            x.write(1, 0, 4);
            x.ask(2, 0, 3);
            due(read(x, 2, 0), 4);
            due(x.ask(2, 0, 0), 1);
            due(read(x, 2, 0), 0);
        });
        test("Promise 5: (and without a lock): option 3 behind the lock changes nothing", 2, x -> {
            x.ask(1, 0, 1);
            x.write(1, 0, 4);
            x.ask(2, 0, 0);
            due(x.ask(2, 0, 3), 1);
            due(read(x, 2, 0), 0);
        });
        test("Promise 5: (and without a lock): one elsewhere is none there", 2, x -> {
            x.ask(1, 0, 1);
            x.write(1, 0, 4);
            x.ask(2, 1, 2);
            x.ask(2, 0, 3);
            due(read(x, 2, 0), 4);
        });
        test("Promise 5: that still keeps it: not when it is agreed", 2, x -> {
            x.ask(1, 0, 1);
            x.write(1, 0, 4);
            x.ask(2, 0, 3);
            x.sync(1);
            agree(x, 1, 0, 9);
            due(read(x, 2, 0), 9);
        });
        test("Promise 5: that still keeps it: not when it is backed out", 2, x -> {
            x.ask(1, 0, 1);
            x.write(1, 0, 4);
            x.ask(2, 0, 3);
            x.backout(1);
            due(read(x, 2, 0), 0);
        });
        test("Promise 5: that still keeps it: not when it is dead", 2, x -> {
            x.ask(1, 0, 1);
            x.write(1, 0, 4);
            x.ask(2, 0, 3);
            x.dead(1);
            due(read(x, 2, 0), 0);
        });
        test("Promise 5: that still keeps it: not when it is restarted", 3, x -> {
            x.ask(2, 5, 1);
            x.write(2, 5, 4);
            x.ask(3, 5, 3);
            due(read(x, 3, 5), 4);
            due(cross(x, 1, 2), -1);
            due(read(x, 3, 5), 0);
        });
        test("Promise 5: that still keeps it: it waits, and keeps it", 3, x -> {
            x.ask(2, 5, 1);
            x.write(2, 5, 4);
            makeWait(x);
            x.ask(3, 5, 3);
            due(read(x, 3, 5), 4);
        });
        test("Promise 5: else the agreed number", 2, x -> {
            agree(x, 1, 0, 3);
            for (int option = 0; option <= 3; option++) {
                x.ask(2, 0, option);
                due(read(x, 2, 0), 3);
                x.sync(2);
            }
        });
        test("Promise 5: IllegalArgumentException when there is no such task", 2, x -> {
            for (int t : NO_TASKS) {
                due(read(x, t, 0), ARGUMENT);
                due(read(x, t, -1), ARGUMENT);
            }
            due(read(x, 3, 0), ARGUMENT);
        });
        test("Promise 5: IllegalArgumentException when there is no such segment", 2, x -> {
            x.dead(2);
            for (int s : NO_SEGMENTS) {
                due(read(x, 1, s), ARGUMENT);
                due(read(x, 2, s), ARGUMENT);
            }
        });
        test("Promise 5: IllegalStateException when it is not active: it waits", 2, x -> {
            x.ask(2, 1, 2);
            x.ask(2, 2, 3);
            x.write(2, 1, 1);
            makeWait(x);
            for (int s = 0; s <= 3; s++) {
                due(read(x, 2, s), STATE);
            }
        });
        test("Promise 5: IllegalStateException when it is not active: it is dead", 1, x -> {
            x.ask(1, 0, 2);
            x.ask(1, 1, 3);
            x.dead(1);
            due(read(x, 1, 0), STATE);
            due(read(x, 1, 1), STATE);
        });
        test("Promise 5: IllegalStateException when it has neither a lock there nor asked for option 3", 2, x -> {
            x.ask(1, 0, 2);
            x.ask(1, 1, 3);
            x.ask(2, 2, 0);
            due(read(x, 1, 2), STATE);
            due(read(x, 1, 49), STATE);
            due(read(x, 2, 0), STATE);
            due(read(x, 1, 0), 0);
            due(read(x, 1, 1), 0);
        });
    }

    private static void promise6() {
        test("Promise 6: how many segments it agreed: none", 1, x -> {
            due(x.sync(1), 0);
            lockAll(x, 1, 2);
            due(x.sync(1), 0);
        });
        test("Promise 6: how many segments it agreed: all", 1, x -> {
            lockAll(x, 1, 2);
            writeAll(x, 1, 1);
            due(x.sync(1), 50);
            due(x.sync(1), 0);
        });
        test("Promise 6: how many segments it agreed: one written twice, one with its old number", 1, x -> {
            x.ask(1, 0, 1);
            x.ask(1, 1, 1);
            x.ask(1, 2, 1);
            x.write(1, 0, 4);
            x.write(1, 0, 5);
            x.write(1, 1, 0);
            due(x.sync(1), 2);
        });
        test("Promise 6: An active task's syncpoint: -5 when it waits, and it waits on", 2, x -> {
            x.ask(2, 1, 2);
            x.write(2, 1, 3);
            makeWait(x);
            due(x.sync(2), -5);
            dueStates(x, 2, 1, 1, 1, 0, 0, 0);
            due(value(x, 1), 0);
        });
        test("Promise 6: An active task's syncpoint: -5 when it is dead", 1, x -> {
            x.ask(1, 0, 2);
            x.write(1, 0, 3);
            x.dead(1);
            due(x.sync(1), -5);
            due(value(x, 0), 0);
            due(x.state(1, 0), 2);
        });
        test("Promise 6: or refused: -2 no such task", 2, x -> {
            for (int t : NO_TASKS) {
                due(x.sync(t), -2);
            }
            due(x.sync(3), -2);
        });
    }

    private static void promise7() {
        test("Promise 7: writes, locks, waiting go, it is active: it waited", 3, x -> {
            x.ask(2, 1, 1);
            x.write(2, 1, 3);
            makeWait(x);
            x.ask(3, 1, 2);
            due(x.backout(2), 1);
            dueStates(x, 2, 0, 0, 0, 0, NONE, 0);
            due(x.holder(1), 3);
            x.sync(1);
            due(x.holder(0), 0);
        });
        test("Promise 7: how many segments it had written: none", 1, x -> {
            due(x.backout(1), 0);
            lockAll(x, 1, 2);
            due(x.backout(1), 0);
            due(x.state(1, 1), 0);
        });
        test("Promise 7: how many segments it had written: all", 1, x -> {
            lockAll(x, 1, 2);
            writeAll(x, 1, 1);
            due(x.backout(1), 50);
            due(x.backout(1), 0);
            for (int s = 0; s < 50; s++) {
                due(value(x, s), 0);
            }
        });
        test("Promise 7: how many segments it had written: one written twice", 1, x -> {
            x.ask(1, 0, 1);
            x.write(1, 0, 4);
            x.write(1, 0, 5);
            due(x.backout(1), 1);
        });
        test("Promise 7: is backed out: it was not restarted", 1, x -> {
            x.ask(1, 0, 2);
            x.backout(1);
            due(x.state(1, 3), 0);
        });
        test("Promise 7: -2", 2, x -> {
            for (int t : NO_TASKS) {
                due(x.backout(t), -2);
            }
            due(x.backout(3), -2);
        });
        test("Promise 7: -5 when it is dead", 1, x -> {
            x.dead(1);
            due(x.backout(1), -5);
            due(x.state(1, 0), 2);
        });
    }

    private static void promise8() {
        test("Promise 8: The i-th task of the ring: the first is i = 0, the last i = 2", 3, x -> {
            x.ask(1, 1, 2);
            x.ask(2, 2, 2);
            x.ask(3, 3, 2);
            x.ask(2, 3, 2);
            x.ask(3, 1, 2);
            due(x.ask(1, 2, 2), 0);
            dueRing(x, 1, 2, 3);
        });
        test("Promise 8: that was found latest: it stays when others wait or go", 3, x -> {
            due(cross(x, 1, 2), -1);
            due(x.ask(3, 0, 2), 0);
            dueRing(x, 2, 1);
            x.dead(1);
            x.dead(2);
            x.sync(3);
            dueRing(x, 2, 1);
        });
        test("Promise 8: that was found latest: a shorter one takes the place of a longer one", 3, x -> {
            x.ask(1, 1, 2);
            x.ask(2, 2, 2);
            x.ask(3, 3, 2);
            x.ask(1, 2, 2);
            x.ask(2, 3, 2);
            due(x.ask(3, 1, 2), -1);
            dueRing(x, 3, 1, 2);
            due(x.sync(2), 0);
            x.backout(1);
            due(cross(x, 2, 1), 1);
            dueRing(x, 1, 2);
        });
        test("Promise 8: that was found latest: the last of those that one ask found", 0, x -> {
            x.task(8);
            x.task(9);
            x.task(1);
            x.ask(3, 9, 2);
            x.ask(1, 0, 0);
            x.ask(2, 0, 0);
            x.ask(2, 9, 0);
            x.ask(1, 9, 0);
            due(x.ask(3, 0, 2), 1);
            dueRing(x, 3, 2);
        });
        test("Promise 8: from the one on that came to wait: it was not restarted", 2, x -> {
            due(cross(x, 2, 1), 1);
            dueRing(x, 1, 2);
        });
        test("Promise 8: 0 when there is none: no ring yet", 2, x -> {
            makeWait(x);
            for (int i : new int[] {0, 1, -1, 29, 30, LEAST, GREATEST}) {
                due(x.ring(i), 0);
            }
        });
        test("Promise 8: 0 when there is none: i is too small or too large", 2, x -> {
            due(cross(x, 1, 2), -1);
            for (int i : new int[] {2, 3, -1, 29, 30, LEAST, GREATEST}) {
                due(x.ring(i), 0);
            }
        });
    }

    private static void promise9() {
        test("Promise 9: As sync(): agreed, the locks go, those that wait are granted", 2, x -> {
            makeWait(x);
            x.write(1, 0, 6);
            due(x.checkpoint(1), 1);
            due(value(x, 0), 6);
            dueStates(x, 1, 0, 0, 0, 0, NONE, 0);
            dueStates(x, 2, 0, 1, 0, 0, NONE, 0);
        });
        test("Promise 9: but how many locks went: none", 1, x -> {
            due(x.checkpoint(1), 0);
            x.ask(1, 0, 3);
            due(x.checkpoint(1), 0);
        });
        test("Promise 9: but how many locks went: all", 1, x -> {
            lockAll(x, 1, 0);
            lockAll(x, 1, 1);
            x.write(1, 0, 1);
            due(x.checkpoint(1), 50);
            due(x.checkpoint(1), 0);
        });
        test("Promise 9: As sync(): -2 no such task", 2, x -> {
            for (int t : NO_TASKS) {
                due(x.checkpoint(t), -2);
            }
            due(x.checkpoint(3), -2);
        });
        test("Promise 9: As sync(): -5 when it waits, and it waits on", 2, x -> {
            x.ask(2, 1, 2);
            x.write(2, 1, 3);
            makeWait(x);
            due(x.checkpoint(2), -5);
            dueStates(x, 2, 1, 1, 1, 0, 0, 0);
            due(value(x, 1), 0);
        });
        test("Promise 9: As sync(): -5 when it is dead", 1, x -> {
            x.dead(1);
            due(x.checkpoint(1), -5);
            due(x.state(1, 0), 2);
        });
    }

    private static void promise10() {
        test("Promise 10: its writes, locks, waiting go: it waited", 3, x -> {
            x.ask(2, 1, 1);
            x.write(2, 1, 3);
            makeWait(x);
            x.ask(3, 0, 0);
            due(x.dead(2), 1);
            dueStates(x, 2, 2, 0, 0, 0, NONE, 0);
            due(x.state(3, 5), 0);
            due(value(x, 1), 0);
            x.sync(1);
            due(x.holder(0), 3);
        });
        test("Promise 10: how many locks: none", 1, x -> {
            x.ask(1, 0, 3);
            due(x.dead(1), 0);
            due(x.state(1, 0), 2);
        });
        test("Promise 10: how many locks: all", 1, x -> {
            lockAll(x, 1, 2);
            due(x.dead(1), 50);
            for (int s = 0; s < 50; s++) {
                due(x.holder(s), 0);
            }
        });
        test("Promise 10: how many locks: the one that it waits for is none, a stronger one is one", 2, x -> {
            x.ask(1, 0, 0);
            x.ask(2, 0, 0);
            x.ask(2, 1, 0);
            x.ask(2, 1, 1);
            due(x.ask(2, 0, 2), 0);
            due(x.dead(2), 2);
        });
        test("Promise 10: -2", 2, x -> {
            for (int t : NO_TASKS) {
                due(x.dead(t), -2);
            }
            due(x.dead(3), -2);
        });
        test("Promise 10: 0 when it was dead", 1, x -> {
            lockAll(x, 1, 2);
            due(x.dead(1), 50);
            due(x.dead(1), 0);
            due(x.dead(1), 0);
            due(x.state(1, 0), 2);
        });
        test("Promise 10: A task is dead: it was restarted as often as it was", 2, x -> {
            due(cross(x, 1, 2), -1);
            x.dead(2);
            due(x.state(2, 3), 1);
        });
    }

    private static void promise11() {
        test("Promise 11: No task may have more than n locks: n of them, not n + 1", 1, x -> {
            x.limit(2);
            due(x.ask(1, 0, 0), 1);
            due(x.ask(1, 1, 0), 1);
            due(x.ask(1, 2, 0), -3);
        });
        test("Promise 11: (0: no limit)", 1, x -> {
            x.limit(1);
            due(x.ask(1, 0, 2), 1);
            due(x.limit(0), 1);
            lockAll(x, 1, 2);
            due(x.state(1, 1), 50);
        });
        test("Promise 11: what it was", 0, x -> {
            due(x.limit(7), 0);
            due(x.limit(GREATEST), 7);
            due(x.limit(0), GREATEST);
            due(x.limit(0), 0);
        });
        test("Promise 11: -4 when n is below 0, and it stays what it was", 1, x -> {
            due(x.limit(-1), -4);
            due(x.limit(1), 0);
            due(x.limit(-1), -4);
            due(x.limit(LEAST), -4);
            due(x.ask(1, 0, 0), 1);
            due(x.ask(1, 1, 0), -3);
            due(x.limit(5), 1);
        });
        test("Promise 11: (Those that are there stay", 1, x -> {
            for (int s = 0; s < 3; s++) {
                x.ask(1, s, 2);
            }
            x.limit(1);
            dueStates(x, 1, 0, 3, 0, 0, NONE, 0);
            due(x.write(1, 2, 5), 1);
            due(x.ask(1, 0, 2), 1);
            due(x.ask(1, 1, 0), 1);
            due(x.ask(1, 3, 0), -3);
        });
        test("Promise 11: a lock that becomes stronger is no other one", 1, x -> {
            x.limit(1);
            due(x.ask(1, 0, 0), 1);
            due(x.ask(1, 0, 1), 1);
            due(x.ask(1, 0, 2), 1);
            dueStates(x, 1, 0, 1, 0, 0, NONE, 0);
        });
        test("Promise 11: a lock that becomes stronger is no other one: when it has to wait for it", 2, x -> {
            x.limit(1);
            x.ask(1, 0, 0);
            x.ask(2, 0, 0);
            due(x.ask(1, 0, 2), 0);
            x.sync(2);
            dueStates(x, 1, 0, 1, 0, 0, NONE, 0);
        });
        test("Promise 11: a lock that becomes stronger is no other one: beyond the limit", 1, x -> {
            x.ask(1, 0, 0);
            x.ask(1, 1, 0);
            x.limit(1);
            due(x.ask(1, 0, 2), 1);
            due(x.state(1, 1), 2);
        });
        test("Promise 11: one that was waited for is granted in any case)", 2, x -> {
            x.ask(2, 1, 0);
            makeWait(x);
            x.limit(1);
            x.sync(1);
            dueStates(x, 2, 0, 2, 0, 0, NONE, 0);
        });
        test("Promise 11: one that was waited for is granted in any case): when a ring is broken, too", 2, x -> {
            x.ask(1, 0, 2);
            x.ask(2, 1, 2);
            x.ask(1, 1, 2);
            x.limit(2);
            due(x.ask(2, 0, 2), -1);
            dueStates(x, 1, 0, 2, 0, 0, NONE, 0);
        });
    }

    private static void promise12() {
        test("Promise 12: The task with the strongest lock on a segment", 30, x -> {
            x.ask(1, 49, 0);
            x.ask(30, 49, 1);
            due(x.holder(49), 30);
            x.sync(1);
            x.ask(30, 49, 2);
            due(x.holder(49), 30);
        });
        test("Promise 12: of equal ones the least number", 30, x -> {
            for (int t = 30; t >= 1; t--) {
                x.ask(t, 0, 0);
                due(x.holder(0), t);
            }
            x.sync(1);
            due(x.holder(0), 2);
        });
        test("Promise 12: 0 for none", 1, x -> {
            due(x.holder(0), 0);
            x.ask(1, 0, 2);
            due(x.holder(1), 0);
            due(x.holder(49), 0);
            x.sync(1);
            due(x.holder(0), 0);
        });
        test("Promise 12: 0 for none: option 3 is none", 1, x -> {
            x.ask(1, 0, 3);
            due(x.holder(0), 0);
        });
        test("Promise 12: what is waited for is none yet", 3, x -> {
            x.ask(2, 0, 0);
            x.ask(3, 0, 1);
            due(x.ask(1, 0, 2), 0);
            due(x.ask(2, 0, 2), 0);
            due(x.holder(0), 3);
        });
        test("Promise 12: -4", 1, x -> {
            for (int s : NO_SEGMENTS) {
                due(x.holder(s), -4);
            }
        });
    }

    private static void promise13() {
        test("Promise 13: all syncpoints so far: none", 1, x -> {
            due(x.serial(), true);
            due(x.sync(2), -2);
            due(x.serial(), true);
        });
        test("Promise 13: Whether all syncpoints were in order: one isn't", 2, x -> {
            x.ask(1, 0, 3);
            read(x, 1, 0);
            agree(x, 2, 0, 1);
            due(x.serial(), true);
            x.sync(1);
            due(x.serial(), false);
        });
        test("Promise 13: (checkpoints too)", 2, x -> {
            x.ask(1, 0, 3);
            read(x, 1, 0);
            agree(x, 2, 0, 1);
            x.checkpoint(1);
            due(x.serial(), false);
        });
        test("Promise 13: all so far: it never becomes true again", 2, x -> {
            x.ask(1, 0, 3);
            read(x, 1, 0);
            agree(x, 2, 0, 1);
            x.sync(1);
            agree(x, 1, 0, 0);
            x.checkpoint(2);
            x.dead(1);
            due(x.serial(), false);
        });
        test("Promise 13: syncpoints: a refused one is none", 3, x -> {
            x.ask(2, 9, 3);
            read(x, 2, 9);
            agree(x, 3, 9, 1);
            makeWait(x);
            due(x.sync(2), -5);
            due(x.checkpoint(2), -5);
            due(x.serial(), true);
        });
        test("Promise 13: syncpoints: a backing out is none, and what was read is gone", 2, x -> {
            x.ask(1, 0, 3);
            read(x, 1, 0);
            agree(x, 2, 0, 1);
            x.backout(1);
            due(x.serial(), true);
            x.sync(1);
            due(x.serial(), true);
        });
        test("Promise 13: syncpoints: a backing out is none, and what was seen of another's write is gone", 2, x -> {
            x.ask(2, 0, 2);
            x.write(2, 0, 1);
            x.ask(1, 0, 3);
            due(read(x, 1, 0), 1);
            x.backout(1);
            x.sync(1);
            due(x.serial(), true);
        });
        test("Promise 13: syncpoints: a restart is none, and what was read is gone", 3, x -> {
            x.ask(2, 9, 3);
            read(x, 2, 9);
            agree(x, 3, 9, 1);
            due(cross(x, 1, 2), -1);
            due(x.serial(), true);
            x.sync(2);
            due(x.serial(), true);
        });
        test("Promise 13: syncpoints: a dead task has none", 2, x -> {
            x.ask(1, 0, 3);
            read(x, 1, 0);
            agree(x, 2, 0, 1);
            x.dead(1);
            due(x.sync(1), -5);
            due(x.serial(), true);
        });
    }

    private static void promise14() {
        test("Promise 14: A segment's agreed number: the first and the last", 1, x -> {
            agree(x, 1, 0, Long.MAX_VALUE);
            agree(x, 1, 49, Long.MIN_VALUE);
            due(value(x, 0), Long.MAX_VALUE);
            due(value(x, 49), Long.MIN_VALUE);
            due(value(x, 1), 0);
            due(value(x, 48), 0);
        });
        test("Promise 14: A segment's agreed number: not what is kept", 1, x -> {
            agree(x, 1, 0, 4);
            x.ask(1, 0, 2);
            x.write(1, 0, 5);
            due(value(x, 0), 4);
            x.dead(1);
            due(value(x, 0), 4);
        });
        test("Promise 14: IllegalArgumentException when there is none such", 1, x -> {
            for (int s : NO_SEGMENTS) {
                due(value(x, s), ARGUMENT);
            }
        });
    }

    private static void promise15() {
        test("Promise 15: what = 0 its state", 2, x -> {
            makeWait(x);
            due(x.state(1, 0), 0);
            due(x.state(2, 0), 1);
            x.dead(1);
            due(x.state(1, 0), 2);
            due(x.state(2, 0), 0);
        });
        test("Promise 15: 1 locks: none, all, none again", 1, x -> {
            x.ask(1, 0, 3);
            due(x.state(1, 1), 0);
            lockAll(x, 1, 0);
            lockAll(x, 1, 2);
            due(x.state(1, 1), 50);
            x.sync(1);
            due(x.state(1, 1), 0);
        });
        test("Promise 15: 1 locks: what it waits for is none yet", 2, x -> {
            makeWait(x);
            due(x.state(2, 1), 0);
            x.sync(1);
            due(x.state(2, 1), 1);
        });
        test("Promise 15: 2 segments written: none, all, none again", 1, x -> {
            lockAll(x, 1, 1);
            due(x.state(1, 2), 0);
            writeAll(x, 1, 1);
            writeAll(x, 1, 2);
            due(x.state(1, 2), 50);
            x.backout(1);
            due(x.state(1, 2), 0);
        });
        test("Promise 15: 3 times that it was restarted: twice, by itself alone", 2, x -> {
            due(x.state(2, 3), 0);
            due(cross(x, 1, 2), -1);
            x.backout(1);
            due(cross(x, 1, 2), -1);
            due(x.state(2, 3), 2);
            x.sync(2);
            x.checkpoint(2);
            x.backout(2);
            due(x.state(2, 3), 2);
            due(x.state(1, 3), 0);
        });
        test("Promise 15: 4 the segment that it waits for (NONE for none)", 3, x -> {
            x.ask(1, 0, 2);
            x.ask(1, 49, 2);
            due(x.state(2, 4), NONE);
            x.ask(2, 0, 0);
            x.ask(3, 49, 0);
            due(x.state(2, 4), 0);
            due(x.state(3, 4), 49);
            due(x.state(1, 4), NONE);
            x.dead(3);
            due(x.state(3, 4), NONE);
            x.sync(1);
            due(x.state(2, 4), NONE);
        });
        test("Promise 15: 5 how many wait ahead of it there: none, one, 28", 30, x -> {
            x.ask(1, 0, 2);
            for (int t = 30; t >= 2; t--) {
                x.ask(t, 0, 0);
            }
            due(x.state(30, 5), 0);
            due(x.state(29, 5), 1);
            due(x.state(2, 5), 28);
            x.dead(30);
            due(x.state(2, 5), 27);
        });
        test("Promise 15: 5 how many wait ahead of it there: not those that wait elsewhere", 4, x -> {
            x.ask(1, 0, 2);
            x.ask(1, 1, 2);
            x.ask(2, 0, 2);
            x.ask(3, 1, 2);
            x.ask(4, 0, 2);
            due(x.state(3, 5), 0);
            due(x.state(4, 5), 1);
        });
        test("Promise 15: 5 how many wait ahead of it there: 0 when it doesn't wait", 3, x -> {
            makeWait(x);
            due(x.state(1, 5), 0);
            due(x.state(3, 5), 0);
            x.dead(3);
            due(x.state(3, 5), 0);
        });
        test("Promise 15: NONE for others", 2, x -> {
            makeWait(x);
            for (int what : new int[] {-1, 6, LEAST, GREATEST}) {
                due(x.state(1, what), NONE);
                due(x.state(2, what), NONE);
            }
        });
        test("Promise 15: or when there is none such", 2, x -> {
            for (int what = -1; what <= 6; what++) {
                for (int t : NO_TASKS) {
                    due(x.state(t, what), NONE);
                }
                due(x.state(3, what), NONE);
            }
        });
        test("Promise 15: or when there is none such: the 30th is, the 31st isn't", 30, x -> {
            dueStates(x, 30, 0, 0, 0, 0, NONE, 0);
            dueStates(x, 31, NONE, NONE, NONE, NONE, NONE, NONE);
        });
    }

    public static void main(String[] args) {
        promise1();
        promise2();
        promise3();
        promise4();
        promise5();
        promise6();
        promise7();
        promise8();
        promise9();
        promise10();
        promise11();
        promise12();
        promise13();
        promise14();
        promise15();
        end();
    }
}
