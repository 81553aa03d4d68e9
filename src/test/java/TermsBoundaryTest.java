/** A test for each boundary case that a sentence of 'What it is' or of 'Terms' names. */
public final class TermsBoundaryTest extends Boundary {
    private static void calls() {
        test("What it is: used for at most 512 calls: the 512th is answered as the others", 0, x -> {
            due(x.task(1), 1);
            for (int call = 2; call <= 510; call += 3) {
                due(x.ask(1, call % 50, 2), 1);
                due(x.write(1, call % 50, call), 1);
                due(x.sync(1), 1);
            }
            due(value(x, 9), 509);
        });
    }

    private static void segments() {
        test("Terms: SEGMENTS 0 .. 49: the first and the last are there", 1, x -> {
            for (int s : new int[] {0, 49}) {
                due(x.ask(1, s, 3), 1);
                due(x.ask(1, s, 2), 1);
                due(x.write(1, s, s + 7), 1);
                due(read(x, 1, s), s + 7);
                due(x.holder(s), 1);
                due(value(x, s), 0);
            }
            due(x.sync(1), 2);
            due(value(x, 0), 7);
            due(value(x, 49), 56);
        });
        test("Terms: SEGMENTS 0 .. 49: there are none outside", 1, x -> {
            for (int s : NO_SEGMENTS) {
                for (int option = 0; option <= 3; option++) {
                    due(x.ask(1, s, option), -4);
                }
                due(x.write(1, s, 1), -4);
                due(read(x, 1, s), ARGUMENT);
                due(x.holder(s), -4);
                due(value(x, s), ARGUMENT);
            }
            dueStates(x, 1, 0, 0, 0, 0, NONE, 0);
        });
        test("Terms: AGREED numbers (0 at first)", 1, x -> {
            lockAll(x, 1, 0);
            for (int s = 0; s < 50; s++) {
                due(value(x, s), 0);
                due(read(x, 1, s), 0);
            }
        });
        test("Terms: AGREED numbers: the least and the greatest long", 1, x -> {
            agree(x, 1, 0, Long.MIN_VALUE);
            agree(x, 1, 49, Long.MAX_VALUE);
            agree(x, 1, 7, 1L << 32);
            due(value(x, 0), Long.MIN_VALUE);
            due(value(x, 49), Long.MAX_VALUE);
            due(value(x, 7), 1L << 32);
        });
    }

    private static void tasks() {
        test("Terms: TASKS are numbered from 1 on", 0, x -> {
            due(x.ask(1, 0, 0), -2);
            due(x.task(9), 1);
            due(x.ask(1, 0, 0), 1);
            due(x.ask(0, 0, 0), -2);
            due(x.ask(2, 0, 0), -2);
            due(x.task(9), 2);
            due(x.ask(2, 0, 0), 1);
        });
        test("Terms: TASKS, at most 30: the 30th is there, the 31st isn't", 29, x -> {
            due(x.state(30, 0), NONE);
            due(x.task(30), 30);
            due(x.ask(30, 0, 2), 1);
            due(x.task(31), NONE);
            due(x.ask(31, 0, 2), -2);
        });
        test("Terms: with an AGE: the least and the greatest int are ages", 0, x -> {
            due(x.task(LEAST), 1);
            due(x.task(GREATEST), 2);
            due(x.task(0), 3);
            due(x.task(-1), 4);
        });
        test("Terms: the YOUNGER of two has the greater age: it came to wait", 0, x -> {
            x.task(LEAST);
            x.task(GREATEST);
            due(cross(x, 1, 2), -1);
            due(x.state(1, 3), 0);
            due(x.state(2, 3), 1);
        });
        test("Terms: the YOUNGER of two has the greater age: it waited already", 0, x -> {
            x.task(GREATEST);
            x.task(LEAST);
            due(cross(x, 1, 2), 1);
            due(x.state(1, 3), 1);
            due(x.state(2, 3), 0);
        });
        test("Terms: the YOUNGER of two has the greater age: below 0, too", 0, x -> {
            x.task(-1);
            x.task(-2);
            due(cross(x, 1, 2), 1);
            due(x.state(1, 3), 1);
        });
        test("Terms: the YOUNGER, of equal ones the greater number: it came to wait", 0, x -> {
            x.task(5);
            x.task(5);
            due(cross(x, 1, 2), -1);
            due(x.state(2, 3), 1);
        });
        test("Terms: the YOUNGER, of equal ones the greater number: it waited already", 0, x -> {
            x.task(5);
            x.task(5);
            due(cross(x, 2, 1), 1);
            due(x.state(2, 3), 1);
            due(x.state(1, 3), 0);
        });
        test("Terms: A task is ACTIVE (0), WAITS (1), or is DEAD (2)", 2, x -> {
            due(x.state(2, 0), 0);
            x.ask(1, 0, 2);
            x.ask(2, 0, 2);
            due(x.state(2, 0), 1);
            x.dead(2);
            due(x.state(2, 0), 2);
        });
    }

    private static void locks() {
        test("Terms: OPTION: 0, 1, 2 are locks, 3 is none, there are no others", 1, x -> {
            for (int option = 0; option <= 3; option++) {
                due(x.ask(1, option, option), 1);
            }
            due(x.state(1, 1), 3);
            for (int option : new int[] {-1, 4, LEAST, GREATEST}) {
                due(x.ask(1, 9, option), -4);
            }
            due(x.state(1, 1), 3);
        });
        for (int first = 0; first < 3; first++) {
            for (int second = 0; second < 3; second++) {
                int has = first;
                int asks = second;
                boolean together = has + asks <= 1;
                test("Terms: together are read and read, read and update; else not: " + has + " " + asks, 2, x -> {
                    due(x.ask(1, 0, has), 1);
                    due(x.ask(2, 0, asks), together ? 1 : 0);
                    due(x.state(2, 1), together ? 1 : 0);
                });
                test("Terms: asking for one that it has, or a weaker one, is granted as it is: " + has + " " + asks,
                        1, x -> {
                            due(x.ask(1, 0, has), 1);
                            due(x.ask(1, 0, asks), 1);
                            due(x.state(1, 1), 1);
                            due(x.write(1, 0, 3), Math.max(has, asks) >= 1 ? 1 : 0);
                            x.task(2);
                            due(x.ask(2, 0, 0), Math.max(has, asks) == 2 ? 0 : 1);
                        });
            }
        }
        test("Terms: one that it has, or a weaker one, is granted as it is, though one waits there", 3, x -> {
            x.ask(1, 0, 1);
            x.ask(2, 0, 0);
            due(x.ask(3, 0, 2), 0);
            due(x.ask(1, 0, 1), 1);
            due(x.ask(1, 0, 0), 1);
            due(x.ask(2, 0, 0), 1);
            due(x.state(3, 5), 0);
        });
        test("Terms: granted if it is together with all locks of other tasks there: 30 read", 30, x -> {
            for (int t = 1; t <= 30; t++) {
                due(x.ask(t, 0, 0), 1);
            }
            due(x.ask(17, 0, 1), 1);
            due(x.ask(30, 0, 1), 0);
        });
        test("Terms: granted if it is together with all locks of other tasks there: one of 29 isn't", 30, x -> {
            for (int t = 1; t <= 28; t++) {
                due(x.ask(t, 0, 0), 1);
            }
            due(x.ask(29, 0, 1), 1);
            due(x.ask(30, 0, 1), 0);
        });
        test("Terms: together with all locks of other tasks there: not its own, not elsewhere", 2, x -> {
            due(x.ask(2, 1, 2), 1);
            due(x.ask(1, 0, 0), 1);
            due(x.ask(1, 0, 2), 1);
        });
        test("Terms: and no one waits there", 3, x -> {
            x.ask(1, 0, 0);
            due(x.ask(2, 0, 2), 0);
            due(x.ask(3, 0, 0), 0);
            due(x.ask(3, 1, 0), -5);
        });
        test("Terms: no one waits there: those elsewhere don't count", 3, x -> {
            x.ask(1, 0, 0);
            due(x.ask(2, 0, 2), 0);
            due(x.ask(3, 1, 0), 1);
        });
        test("Terms: (unless the task has a weaker lock there already): though one waits", 2, x -> {
            x.ask(1, 0, 0);
            due(x.ask(2, 0, 2), 0);
            due(x.ask(1, 0, 1), 1);
            due(x.ask(1, 0, 2), 1);
            due(x.state(2, 0), 1);
        });
        test("Terms: (unless the task has a weaker lock there already): it must be together all the same", 3, x -> {
            x.ask(1, 0, 0);
            x.ask(2, 0, 0);
            due(x.ask(1, 0, 2), 0);
            due(x.state(1, 1), 1);
        });
        test("Terms: it takes the place of the weaker one", 3, x -> {
            due(x.ask(1, 0, 0), 1);
            due(x.ask(1, 0, 1), 1);
            due(x.state(1, 1), 1);
            due(x.ask(2, 0, 1), 0);
            x.backout(2);
            due(x.ask(1, 0, 2), 1);
            due(x.state(1, 1), 1);
            due(x.ask(3, 0, 0), 0);
            due(x.checkpoint(1), 1);
        });
    }

    private static void rows() {
        test("Terms: WAITS there: at the end of the ROW: an empty one", 2, x -> {
            x.ask(1, 49, 2);
            due(x.ask(2, 49, 0), 0);
            dueStates(x, 2, 1, 0, 0, 0, 49, 0);
        });
        test("Terms: WAITS there: at the end of the ROW: 29 in it", 30, x -> {
            x.ask(1, 0, 2);
            for (int t = 2; t <= 30; t++) {
                due(x.ask(t, 0, 0), 0);
                due(x.state(t, 5), t - 2);
            }
            due(x.state(2, 5), 0);
        });
        test("Terms: at the end of the ROW: one that waited there and was backed out has no old place", 3, x -> {
            x.ask(1, 0, 2);
            due(x.ask(2, 0, 0), 0);
            due(x.ask(3, 0, 0), 0);
            x.backout(2);
            due(x.ask(2, 0, 0), 0);
            due(x.state(2, 5), 1);
            due(x.state(3, 5), 0);
        });
        test("Terms: at the end of the ROW: one that waited there and was granted has no old place", 3, x -> {
            x.ask(1, 0, 2);
            due(x.ask(2, 0, 0), 0);
            x.sync(1);
            x.sync(2);
            x.ask(1, 0, 2);
            due(x.ask(3, 0, 0), 0);
            due(x.ask(2, 0, 0), 0);
            due(x.state(2, 5), 1);
            due(x.state(3, 5), 0);
        });
        test("Terms: at the end of the ROW: one that was granted another segment has no old place", 4, x -> {
            x.ask(1, 1, 2);
            x.ask(4, 0, 2);
            due(x.ask(2, 0, 0), 0);
            due(x.ask(3, 1, 0), 0);
            x.sync(4);
            due(x.ask(2, 1, 0), 0);
            due(x.state(2, 5), 1);
            due(x.state(3, 5), 0);
        });
        test("Terms: if it has a lock there: an empty row", 2, x -> {
            x.ask(1, 0, 0);
            x.ask(2, 0, 0);
            due(x.ask(1, 0, 2), 0);
            due(x.state(1, 5), 0);
        });
        test("Terms: if it has a lock there: ahead of all when none has one", 4, x -> {
            x.ask(1, 0, 0);
            x.ask(2, 0, 0);
            due(x.ask(3, 0, 2), 0);
            due(x.ask(4, 0, 0), 0);
            due(x.ask(1, 0, 2), 0);
            due(x.state(1, 5), 0);
            due(x.state(3, 5), 1);
            due(x.state(4, 5), 2);
        });
        test("Terms: if it has a lock there: behind those at the beginning of the row that have one, too", 5, x -> {
            for (int t = 1; t <= 3; t++) {
                x.ask(t, 0, 0);
            }
            x.ask(3, 0, 1);
            due(x.ask(4, 0, 2), 0);
            due(x.ask(2, 0, 1), 0);
            due(x.ask(5, 0, 0), 0);
            due(x.ask(1, 0, 1), 0);
            due(x.state(2, 5), 0);
            due(x.state(1, 5), 1);
            due(x.state(4, 5), 2);
            due(x.state(5, 5), 3);
        });
        test("Terms: if it has a lock there: at the end when all have one", 4, x -> {
            for (int t = 1; t <= 4; t++) {
                x.ask(t, 0, 0);
            }
            x.ask(4, 0, 1);
            for (int t = 3; t >= 1; t--) {
                due(x.ask(t, 0, 1), 0);
                due(x.state(t, 5), 3 - t);
            }
        });
        test("Terms: if it has a lock there: one elsewhere is none there", 3, x -> {
            x.ask(1, 0, 2);
            x.ask(3, 1, 2);
            due(x.ask(2, 0, 0), 0);
            due(x.ask(3, 0, 0), 0);
            due(x.state(3, 5), 1);
        });
    }

    private static void option3() {
        test("Terms: OPTION 3 takes no lock: beside an exclusive one and a row", 3, x -> {
            x.ask(1, 0, 2);
            due(x.ask(2, 0, 0), 0);
            due(x.ask(3, 0, 3), 1);
            dueStates(x, 3, 0, 0, 0, 0, NONE, 0);
            due(read(x, 3, 0), 0);
        });
        test("Terms: OPTION 3 takes no lock: no one is kept out by it", 2, x -> {
            due(x.ask(1, 0, 3), 1);
            due(x.holder(0), 0);
            due(x.ask(2, 0, 2), 1);
        });
        test("Terms: OPTION 3: from then on: not ahead of it", 1, x -> {
            due(read(x, 1, 0), STATE);
            x.ask(1, 0, 3);
            due(read(x, 1, 0), 0);
            due(read(x, 1, 0), 0);
        });
        test("Terms: OPTION 3: till its next syncpoint", 1, x -> {
            x.ask(1, 0, 3);
            due(x.sync(1), 0);
            due(read(x, 1, 0), STATE);
        });
        test("Terms: OPTION 3: till its next checkpoint", 1, x -> {
            x.ask(1, 0, 3);
            due(x.checkpoint(1), 0);
            due(read(x, 1, 0), STATE);
        });
        test("Terms: OPTION 3: till its next backing out", 1, x -> {
            x.ask(1, 0, 3);
            due(x.backout(1), 0);
            due(read(x, 1, 0), STATE);
        });
        test("Terms: OPTION 3: till its next backing out: by a restart, too", 2, x -> {
            x.ask(2, 9, 3);
            due(cross(x, 1, 2), -1);
            due(read(x, 2, 9), STATE);
        });
        test("Terms: OPTION 3: till its next: not that of another task", 2, x -> {
            x.ask(1, 0, 3);
            x.sync(2);
            x.checkpoint(2);
            x.backout(2);
            x.dead(2);
            due(read(x, 1, 0), 0);
        });
        test("Terms: OPTION 3: the task may read that segment: no other one, and no other task may", 2, x -> {
            x.ask(1, 1, 3);
            due(read(x, 1, 0), STATE);
            due(read(x, 1, 2), STATE);
            due(read(x, 2, 1), STATE);
        });
        test("Terms: OPTION 3: with what others have written there: nothing yet", 2, x -> {
            agree(x, 2, 0, 4);
            x.ask(1, 0, 3);
            x.ask(2, 0, 2);
            due(read(x, 1, 0), 4);
            x.write(2, 0, 5);
            due(read(x, 1, 0), 5);
        });
    }

    private static void blocked() {
        test("Terms: BLOCKED by the others: its own lock is no ring", 2, x -> {
            x.ask(1, 0, 0);
            x.ask(2, 0, 0);
            due(x.ask(2, 0, 2), 0);
            due(x.ring(0), 0);
        });
        test("Terms: BLOCKED by the others whose locks are not together: not by one whose lock is", 3, x -> {
            x.ask(1, 0, 0);
            x.ask(2, 0, 1);
            x.ask(3, 1, 2);
            due(x.ask(3, 0, 1), 0);
            due(x.ask(1, 1, 0), 0);
            due(x.ring(0), 0);
        });
        test("Terms: BLOCKED by all ahead of it in the row: though it is together with them", 3, x -> {
            x.ask(1, 0, 1);
            x.ask(3, 1, 2);
            due(x.ask(2, 0, 1), 0);
            due(x.ask(3, 0, 0), 0);
            due(x.ask(1, 1, 0), 1);
            dueRing(x, 1, 3, 2);
            due(x.state(2, 0), 1);
        });
        test("Terms: BLOCKED by all ahead of it in the row: a ring by the row alone", 3, x -> {
            x.ask(1, 0, 0);
            x.ask(3, 1, 2);
            due(x.ask(2, 0, 2), 0);
            due(x.ask(3, 0, 0), 0);
            due(x.ask(1, 1, 0), 1);
            dueRing(x, 1, 3, 2);
            due(x.state(3, 3), 1);
            due(x.state(2, 0), 1);
        });
        test("Terms: BLOCKED by all ahead of it in the row: by the first task and by the last", 30, x -> {
            x.ask(2, 0, 0);
            x.ask(3, 1, 2);
            due(x.ask(1, 0, 2), 0);
            due(x.ask(3, 0, 0), 0);
            due(x.ask(2, 1, 0), 1);
            dueRing(x, 2, 3, 1);
            x.backout(1);
            x.ask(3, 2, 2);
            due(x.ask(30, 0, 2), 0);
            due(x.ask(3, 0, 0), 0);
            due(x.ask(2, 2, 0), 0);
            dueRing(x, 2, 3, 30);
            due(x.state(30, 3), 1);
        });
        test("Terms: BLOCKED by all ahead of it in the row: not by those behind it", 3, x -> {
            x.ask(1, 0, 2);
            x.ask(3, 1, 2);
            due(x.ask(2, 0, 2), 0);
            due(x.ask(3, 0, 2), 0);
            due(x.state(2, 5), 0);
            due(x.ring(0), 0);
            due(x.sync(1), 0);
            due(x.ask(2, 1, 0), 1);
            dueRing(x, 2, 3);
        });
    }

    private static void rings() {
        test("Terms: RING: a chain that does not come back is none", 30, x -> {
            for (int t = 1; t <= 30; t++) {
                x.ask(t, t, 2);
            }
            for (int t = 1; t <= 29; t++) {
                due(x.ask(t, t + 1, 2), 0);
            }
            due(x.ring(0), 0);
            due(x.state(30, 0), 0);
        });
        test("Terms: RING: of two, the least one", 2, x -> {
            due(cross(x, 1, 2), -1);
            dueRing(x, 2, 1);
        });
        test("Terms: RING: of all 30 tasks", 30, x -> {
            for (int t = 1; t <= 30; t++) {
                x.ask(t, t, 2);
            }
            for (int t = 1; t <= 29; t++) {
                x.ask(t, t + 1, 2);
            }
            due(x.ask(30, 1, 2), -1);
            due(x.ring(0), 30);
            for (int i = 1; i <= 29; i++) {
                due(x.ring(i), i);
            }
            due(x.ring(30), 0);
            due(x.state(29, 0), 0);
            due(x.state(29, 1), 2);
            due(x.state(28, 0), 1);
        });
        test("Terms: RING: through a row of 27, each blocked by all ahead of it", 30, x -> {
            x.ask(30, 0, 2);
            x.ask(3, 1, 2);
            x.ask(2, 2, 2);
            x.ask(1, 3, 2);
            for (int t = 4; t <= 29; t++) {
                due(x.ask(t, 0, 0), 0);
            }
            due(x.ask(3, 0, 0), 0);
            due(x.ask(30, 2, 0), 0);
            due(x.ask(2, 3, 0), 0);
            due(x.ask(1, 1, 0), 0);
            dueRing(x, 1, 3, 30, 2);
            due(x.state(30, 3), 1);
            due(x.state(3, 0), 0);
        });
        test("Terms: a RING with it: one that it only waits for is none", 4, x -> {
            x.ask(1, 0, 2);
            x.ask(2, 1, 2);
            due(x.ask(1, 1, 2), 0);
            due(x.ask(3, 0, 2), 0);
            due(x.ask(4, 1, 2), 0);
            due(x.ring(0), 0);
        });
        test("Terms: the shortest one: a longer one by lesser numbers isn't", 5, x -> {
            x.ask(1, 0, 0);
            x.ask(4, 0, 0);
            x.ask(2, 1, 2);
            x.ask(5, 2, 2);
            x.ask(5, 3, 2);
            due(x.ask(1, 1, 2), 0);
            due(x.ask(2, 2, 2), 0);
            due(x.ask(4, 3, 2), 0);
            due(x.ask(5, 0, 2), -1);
            dueRing(x, 5, 4);
        });
        test("Terms: level by level, those by whom one is blocked by numbers: of equally long ones", 4, x -> {
            x.ask(3, 0, 0);
            x.ask(2, 0, 0);
            x.ask(4, 2, 2);
            due(x.ask(3, 2, 0), 0);
            due(x.ask(2, 2, 0), 0);
            due(x.ask(4, 0, 2), -1);
            dueRing(x, 4, 2);
        });
        test("Terms: level by level, by numbers: two ways to the same one", 4, x -> {
            x.ask(2, 0, 0);
            x.ask(1, 0, 0);
            x.ask(3, 1, 2);
            x.ask(4, 2, 2);
            due(x.ask(2, 1, 0), 0);
            due(x.ask(1, 1, 0), 0);
            due(x.ask(3, 2, 0), 0);
            due(x.ask(4, 0, 2), -1);
            dueRing(x, 4, 1, 3);
        });
        test("Terms: level by level, by numbers: the way over the lesser one comes first in the next level", 5, x -> {
            x.ask(1, 0, 0);
            x.ask(2, 0, 0);
            x.ask(4, 1, 2);
            x.ask(3, 2, 2);
            x.ask(5, 3, 2);
            x.ask(5, 4, 2);
            due(x.ask(1, 1, 0), 0);
            due(x.ask(2, 2, 0), 0);
            due(x.ask(3, 3, 0), 0);
            due(x.ask(4, 4, 0), 0);
            due(x.ask(5, 0, 2), -1);
            dueRing(x, 5, 1, 4);
        });
        test("Terms: the youngest of the ring is RESTARTED: not a younger one outside it", 4, x -> {
            x.ask(4, 5, 2);
            x.ask(1, 0, 2);
            x.ask(2, 1, 2);
            x.ask(1, 1, 2);
            due(x.ask(4, 0, 0), 0);
            due(x.ask(2, 0, 2), -1);
            due(x.state(4, 3), 0);
            due(x.state(4, 1), 1);
            due(x.state(3, 3), 0);
            due(x.state(1, 3), 0);
        });
        test("Terms: RESTARTED: its writes are gone, its locks too, it waits no more, it is active", 2, x -> {
            x.ask(2, 7, 1);
            x.write(2, 7, 5);
            due(cross(x, 2, 1), 1);
            dueStates(x, 2, 0, 0, 0, 1, NONE, 0);
            due(x.holder(7), 0);
            due(x.sync(2), 0);
            due(value(x, 7), 0);
        });
        test("Terms: That is done again till there is none: 29 rings by one ask", 0, x -> {
            for (int t = 1; t <= 29; t++) {
                x.task(t);
            }
            x.task(0);
            x.ask(30, 0, 2);
            for (int t = 1; t <= 29; t++) {
                x.ask(t, 1, 0);
                due(x.ask(t, 0, 0), 0);
            }
            due(x.ask(30, 1, 2), 1);
            for (int t = 1; t <= 29; t++) {
                dueStates(x, t, 0, 0, 0, 1, NONE, 0);
            }
            due(x.state(30, 3), 0);
            due(x.state(30, 1), 2);
            dueRing(x, 30, 29);
        });
        test("Terms: till there is none: it ends when the one that came to wait is restarted itself", 4, x -> {
            x.ask(1, 0, 0);
            x.ask(2, 0, 0);
            x.ask(3, 9, 2);
            due(x.ask(1, 9, 0), 0);
            due(x.ask(2, 9, 0), 0);
            due(x.ask(3, 0, 2), -1);
            dueRing(x, 3, 1);
            dueStates(x, 3, 0, 0, 0, 1, NONE, 0);
            dueStates(x, 1, 0, 2, 0, 0, NONE, 0);
            dueStates(x, 2, 0, 2, 0, 0, NONE, 0);
        });
        test("Terms: till there is none: another first, then the one that came to wait", 0, x -> {
            x.task(9);
            x.task(1);
            x.task(5);
            x.ask(1, 0, 0);
            x.ask(2, 0, 0);
            x.ask(3, 9, 2);
            due(x.ask(1, 9, 0), 0);
            due(x.ask(2, 9, 0), 0);
            due(x.ask(3, 0, 2), -1);
            due(x.state(1, 3), 1);
            due(x.state(2, 3), 0);
            due(x.state(3, 3), 1);
            dueRing(x, 3, 2);
        });
        test("Terms: till there is none: it may wait still", 4, x -> {
            x.ask(1, 1, 2);
            x.ask(3, 0, 0);
            x.ask(2, 0, 0);
            due(x.ask(3, 1, 0), 0);
            due(x.ask(1, 0, 2), 0);
            dueStates(x, 1, 1, 1, 0, 0, 0, 0);
            due(x.state(3, 3), 1);
        });
    }

    private static void grants() {
        test("Terms: Whenever locks go: at a syncpoint", 2, x -> {
            x.ask(1, 0, 2);
            x.ask(2, 0, 2);
            x.sync(1);
            dueStates(x, 2, 0, 1, 0, 0, NONE, 0);
        });
        test("Terms: Whenever locks go: at a checkpoint", 2, x -> {
            x.ask(1, 0, 2);
            x.ask(2, 0, 2);
            x.checkpoint(1);
            dueStates(x, 2, 0, 1, 0, 0, NONE, 0);
        });
        test("Terms: Whenever locks go: by a backing out", 2, x -> {
            x.ask(1, 0, 2);
            x.ask(2, 0, 2);
            x.backout(1);
            dueStates(x, 2, 0, 1, 0, 0, NONE, 0);
        });
        test("Terms: Whenever locks go: of a dead task", 2, x -> {
            x.ask(1, 0, 2);
            x.ask(2, 0, 2);
            x.dead(1);
            dueStates(x, 2, 0, 1, 0, 0, NONE, 0);
        });
        test("Terms: Whenever locks go: of a task dead by the limit", 2, x -> {
            x.limit(1);
            x.ask(1, 0, 2);
            x.ask(2, 0, 2);
            due(x.ask(1, 1, 0), -3);
            dueStates(x, 2, 0, 1, 0, 0, NONE, 0);
        });
        test("Terms: Whenever locks go: of a restarted task", 3, x -> {
            x.ask(2, 5, 2);
            x.ask(3, 5, 0);
            due(cross(x, 2, 1), 1);
            dueStates(x, 3, 0, 1, 0, 0, NONE, 0);
        });
        test("Terms: Whenever waiting ones go: the first is backed out", 3, x -> {
            x.ask(1, 0, 0);
            x.ask(2, 0, 2);
            due(x.ask(3, 0, 0), 0);
            x.backout(2);
            due(x.state(3, 0), 0);
            due(x.state(3, 1), 1);
        });
        test("Terms: Whenever waiting ones go: the first is dead", 3, x -> {
            x.ask(1, 0, 0);
            x.ask(2, 0, 2);
            due(x.ask(3, 0, 0), 0);
            x.dead(2);
            due(x.state(3, 0), 0);
            due(x.state(3, 1), 1);
        });
        test("Terms: Whenever waiting ones go: the first is restarted", 4, x -> {
            x.ask(1, 0, 0);
            x.ask(4, 1, 2);
            x.ask(4, 0, 2);
            due(x.ask(3, 0, 0), 0);
            due(x.ask(1, 1, 0), 1);
            due(x.state(4, 3), 1);
            due(x.state(3, 0), 0);
        });
        test("Terms: from the beginning of each row: the first segment and the last", 3, x -> {
            x.ask(1, 0, 2);
            x.ask(1, 49, 2);
            x.ask(2, 49, 2);
            x.ask(3, 0, 2);
            x.sync(1);
            due(x.holder(0), 3);
            due(x.holder(49), 2);
        });
        test("Terms: those are granted that can be: the whole row", 30, x -> {
            x.ask(1, 0, 2);
            for (int t = 2; t <= 30; t++) {
                x.ask(t, 0, 0);
            }
            x.sync(1);
            for (int t = 2; t <= 30; t++) {
                dueStates(x, t, 0, 1, 0, 0, NONE, 0);
            }
        });
        test("Terms: those are granted that can be (with no look at the row): though others wait", 4, x -> {
            x.ask(1, 0, 2);
            x.ask(2, 0, 0);
            x.ask(3, 0, 0);
            x.ask(4, 0, 2);
            x.sync(1);
            due(x.state(2, 0), 0);
            due(x.state(3, 0), 0);
            dueStates(x, 4, 1, 0, 0, 0, 0, 0);
        });
        test("Terms: those are granted that can be: none, when another's lock is still there", 4, x -> {
            x.ask(1, 0, 0);
            x.ask(2, 0, 0);
            x.ask(3, 0, 2);
            x.sync(1);
            due(x.state(3, 0), 1);
            x.sync(2);
            due(x.state(3, 0), 0);
        });
        test("Terms: those are granted that can be: a stronger lock beside the task's own", 2, x -> {
            x.ask(1, 0, 0);
            x.ask(2, 0, 0);
            due(x.ask(1, 0, 2), 0);
            x.sync(2);
            dueStates(x, 1, 0, 1, 0, 0, NONE, 0);
            due(x.write(1, 0, 1), 1);
        });
        test("Terms: up to the first that can't: one behind it that could isn't granted", 4, x -> {
            x.ask(1, 0, 0);
            x.ask(2, 0, 0);
            x.ask(3, 0, 2);
            x.ask(4, 0, 0);
            x.sync(2);
            due(x.state(3, 0), 1);
            dueStates(x, 4, 1, 0, 0, 0, 0, 1);
        });
        test("Terms: up to the first that can't: in the midst of a row", 5, x -> {
            x.ask(1, 0, 2);
            x.ask(2, 0, 1);
            x.ask(3, 0, 0);
            x.ask(4, 0, 1);
            x.ask(5, 0, 0);
            x.sync(1);
            due(x.state(2, 0), 0);
            due(x.state(3, 0), 0);
            due(x.state(4, 0), 1);
            due(x.state(5, 0), 1);
            due(x.state(4, 5), 0);
            due(x.state(5, 5), 1);
        });
        test("Terms: up to the first that can't: another row goes on", 5, x -> {
            x.ask(1, 0, 0);
            x.ask(2, 0, 0);
            x.ask(2, 1, 2);
            x.ask(3, 0, 2);
            x.ask(4, 1, 0);
            x.sync(2);
            due(x.state(3, 0), 1);
            due(x.state(4, 0), 0);
        });
    }

    private static void writes() {
        test("Terms: WRITES are kept by the task till its SYNCPOINT", 2, x -> {
            x.ask(1, 0, 1);
            x.write(1, 0, 5);
            x.ask(2, 0, 0);
            due(value(x, 0), 0);
            due(read(x, 2, 0), 0);
            due(read(x, 1, 0), 5);
            x.sync(2);
            due(value(x, 0), 0);
            x.sync(1);
            due(value(x, 0), 5);
        });
        test("Terms: WRITES: of all 50 segments, when they are agreed", 1, x -> {
            lockAll(x, 1, 1);
            writeAll(x, 1, 100);
            due(x.sync(1), 50);
            for (int s = 0; s < 50; s++) {
                due(value(x, s), 100 + s);
            }
        });
        test("Terms: WRITES: none: nothing is agreed, and all its locks go", 2, x -> {
            agree(x, 1, 0, 3);
            lockAll(x, 1, 2);
            due(x.sync(1), 0);
            due(value(x, 0), 3);
            due(x.state(1, 1), 0);
            lockAll(x, 2, 2);
        });
        test("Terms: WRITES are kept till its SYNCPOINT: not longer", 2, x -> {
            agree(x, 1, 0, 5);
            agree(x, 2, 0, 6);
            due(x.sync(1), 0);
            due(value(x, 0), 6);
        });
    }

    private static void reads() {
        test("Terms: IN ORDER: nothing was read", 1, x -> {
            x.sync(1);
            agree(x, 1, 0, 4);
            due(x.serial(), true);
        });
        for (int segment : new int[] {0, 49}) {
            test("Terms: IN ORDER: each segment that it read has still that number: " + segment, 2, x -> {
                x.ask(1, segment, 3);
                due(read(x, 1, segment), 0);
                x.sync(1);
                due(x.serial(), true);
                x.ask(1, segment, 3);
                due(read(x, 1, segment), 0);
                agree(x, 2, segment, 1);
                x.sync(1);
                due(x.serial(), false);
            });
        }
        test("Terms: IN ORDER: each segment that it read: one of 50 has another number", 2, x -> {
            lockAll(x, 1, 0);
            for (int s = 0; s < 50; s++) {
                read(x, 1, s);
            }
            due(x.ask(2, 31, 1), 1);
            x.write(2, 31, 1);
            x.sync(2);
            due(x.serial(), true);
            x.sync(1);
            due(x.serial(), false);
        });
        test("Terms: IN ORDER: that it read: a lock without a read is none", 2, x -> {
            x.ask(1, 0, 0);
            x.ask(1, 1, 3);
            due(x.ask(2, 0, 1), 1);
            due(x.ask(2, 1, 2), 1);
            x.write(2, 0, 1);
            x.write(2, 1, 1);
            x.sync(2);
            x.sync(1);
            due(x.serial(), true);
        });
        test("Terms: IN ORDER: that it read: a read that throws is none", 2, x -> {
            due(read(x, 1, 0), STATE);
            due(read(x, 1, 50), ARGUMENT);
            agree(x, 2, 0, 1);
            x.sync(1);
            due(x.serial(), true);
        });
        test("Terms: IN ORDER: (not its own write)", 1, x -> {
            x.ask(1, 0, 2);
            x.write(1, 0, 4);
            due(read(x, 1, 0), 4);
            x.sync(1);
            due(x.serial(), true);
        });
        test("Terms: IN ORDER: (not its own write): a read ahead of it counts", 2, x -> {
            x.ask(1, 0, 3);
            due(read(x, 1, 0), 0);
            agree(x, 2, 0, 1);
            x.ask(1, 0, 2);
            x.write(1, 0, 0);
            x.sync(1);
            due(x.serial(), false);
        });
        test("Terms: IN ORDER: just ahead of its writes", 1, x -> {
            x.ask(1, 0, 1);
            due(read(x, 1, 0), 0);
            x.write(1, 0, 4);
            x.sync(1);
            due(x.serial(), true);
        });
        test("Terms: IN ORDER: still that number: it went and came back", 2, x -> {
            x.ask(1, 0, 3);
            due(read(x, 1, 0), 0);
            agree(x, 2, 0, 1);
            agree(x, 2, 0, 0);
            x.sync(1);
            due(x.serial(), true);
        });
        test("Terms: IN ORDER: it was this that was seen: another's write, agreed by no one", 2, x -> {
            x.ask(2, 0, 2);
            x.write(2, 0, 4);
            x.ask(1, 0, 3);
            due(read(x, 1, 0), 4);
            x.sync(1);
            due(x.serial(), false);
        });
        test("Terms: IN ORDER: still that agreed number: another's write, agreed later", 2, x -> {
            x.ask(2, 0, 2);
            x.write(2, 0, 4);
            x.ask(1, 0, 3);
            due(read(x, 1, 0), 4);
            x.sync(2);
            x.sync(1);
            due(x.serial(), false);
        });
        test("Terms: IN ORDER: it was this that was seen: another's write of the same number", 2, x -> {
            x.ask(2, 0, 2);
            x.write(2, 0, 0);
            x.ask(1, 0, 3);
            due(read(x, 1, 0), 0);
            x.sync(1);
            due(x.serial(), true);
        });
        test("Terms: READS are remembered: the first one, too", 2, x -> {
            x.ask(1, 0, 3);
            due(read(x, 1, 0), 0);
            agree(x, 2, 0, 1);
            due(read(x, 1, 0), 1);
            x.sync(1);
            due(x.serial(), false);
        });
        test("Terms: READS are remembered: the last one, too", 2, x -> {
            x.ask(1, 0, 3);
            due(read(x, 1, 0), 0);
            agree(x, 2, 0, 1);
            due(read(x, 1, 0), 1);
            agree(x, 2, 0, 0);
            x.sync(1);
            due(x.serial(), false);
        });
        test("Terms: READS are remembered: not beyond the syncpoint", 2, x -> {
            x.ask(1, 0, 3);
            due(read(x, 1, 0), 0);
            x.sync(1);
            agree(x, 2, 0, 1);
            x.sync(1);
            due(x.serial(), true);
        });
        test("Terms: READS are remembered: each task's own", 3, x -> {
            x.ask(1, 0, 3);
            due(read(x, 1, 0), 0);
            agree(x, 2, 0, 1);
            x.ask(3, 0, 0);
            due(read(x, 3, 0), 1);
            x.sync(3);
            due(x.serial(), true);
        });
    }

    private static void refusals() {
        test("Terms: Refusals, the first one of these: -2 ahead of -4", 1, x -> {
            due(x.ask(2, 50, 0), -2);
            due(x.ask(2, 0, 4), -2);
            due(x.ask(0, -1, -1), -2);
            due(x.write(2, 50, 1), -2);
            due(x.write(0, -1, 1), -2);
        });
        test("Terms: Refusals, the first one of these: -4 ahead of -5, the task waits", 2, x -> {
            x.ask(1, 0, 2);
            x.ask(2, 0, 2);
            due(x.ask(2, 50, 0), -4);
            due(x.ask(2, -1, 3), -4);
            due(x.ask(2, 1, 4), -4);
            due(x.ask(2, 1, -1), -4);
            due(x.write(2, 50, 1), -4);
            due(x.write(2, -1, 1), -4);
            due(x.ask(2, 1, 0), -5);
            due(x.write(2, 1, 1), -5);
        });
        test("Terms: Refusals, the first one of these: -4 ahead of -5, the task is dead", 1, x -> {
            x.dead(1);
            due(x.ask(1, 50, 0), -4);
            due(x.ask(1, 0, 4), -4);
            due(x.write(1, -1, 1), -4);
            due(x.ask(1, 0, 0), -5);
            due(x.write(1, 0, 1), -5);
        });
        test("Terms: Refusals: -5 ahead of what an ask or a write would answer", 2, x -> {
            x.ask(1, 0, 2);
            x.ask(2, 1, 2);
            x.ask(2, 0, 0);
            x.limit(1);
            due(x.ask(2, 1, 2), -5);
            due(x.ask(2, 9, 0), -5);
            due(x.ask(2, 9, 3), -5);
            due(x.write(2, 1, 1), -5);
            due(x.write(2, 9, 1), -5);
            due(x.state(2, 0), 1);
        });
        test("Terms: Refusals change nothing", 2, x -> {
            x.ask(1, 0, 2);
            x.ask(1, 1, 1);
            x.write(1, 1, 8);
            x.ask(2, 2, 0);
            x.ask(2, 0, 0);
            due(x.ask(2, 5, 2), -5);
            due(x.ask(2, 5, 3), -5);
            due(x.write(2, 2, 1), -5);
            due(x.sync(2), -5);
            due(x.checkpoint(2), -5);
            due(x.ask(1, 50, 2), -4);
            due(x.ask(1, 3, 4), -4);
            due(x.write(1, 50, 4), -4);
            due(x.sync(3), -2);
            due(x.limit(-1), -4);
            dueStates(x, 1, 0, 2, 1, 0, NONE, 0);
            dueStates(x, 2, 1, 1, 0, 0, 0, 0);
            due(x.backout(2), 0);
            due(read(x, 2, 5), STATE);
            due(x.limit(0), 0);
            due(x.sync(1), 1);
            due(value(x, 1), 8);
        });
        test("Terms: Refusals: NONE no room", 30, x -> due(x.task(1), NONE));
    }

    public static void main(String[] args) {
        calls();
        segments();
        tasks();
        locks();
        rows();
        option3();
        blocked();
        rings();
        grants();
        writes();
        reads();
        refusals();
        end();
    }
}
