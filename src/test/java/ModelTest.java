import java.util.ArrayList;
import java.util.List;
import java.util.Random;
import java.util.TreeMap;
import java.util.TreeSet;

/** Random runs (the same each time), each call's answer beside that of a plain model of the document. */
public final class ModelTest {
    private static final int RUNS = 1500;
    private static final long ARGUMENT = Long.MIN_VALUE + 11;
    private static final long STATE = Long.MIN_VALUE + 12;

    private record Seen(int segment, long agreedThen, long number) { }

    private record Kept(int task, int segment, long number) { }

    /** Every rule as its sentence in the document tells it, with no care for speed. */
    private static final class Model {
        private final long[] agreed = new long[50];
        private final List<Integer> ages = new ArrayList<>();
        private final List<Integer> states = new ArrayList<>();
        private final List<Integer> restarts = new ArrayList<>();
        private final List<TreeMap<Integer, Integer>> locks = new ArrayList<>();
        private final List<TreeSet<Integer>> looks = new ArrayList<>();
        private final List<List<Seen>> reads = new ArrayList<>();
        private final List<Kept> writes = new ArrayList<>();
        private final List<List<Integer>> rows = new ArrayList<>();
        private final TreeMap<Integer, Integer> wishes = new TreeMap<>();
        private List<Integer> ring = List.of();
        private int limit = 0;
        private boolean serial = true;

        Model() {
            for (int s = 0; s < 50; s++) {
                rows.add(new ArrayList<>());
            }
            addTask(0);
        }

        private void addTask(int age) {
            ages.add(age);
            states.add(0);
            restarts.add(0);
            locks.add(new TreeMap<>());
            looks.add(new TreeSet<>());
            reads.add(new ArrayList<>());
        }

        private boolean isTask(int t) {
            return t >= 1 && t < ages.size();
        }

        private static boolean isSegment(int s) {
            return s >= 0 && s <= 49;
        }

        int task(int age) {
            if (ages.size() == 31) {
                return -1;
            }
            addTask(age);
            return ages.size() - 1;
        }

        private static boolean together(int a, int b) {
            return a + b <= 1;
        }

        private TreeSet<Integer> notTogether(int t, int s, int option) {
            TreeSet<Integer> found = new TreeSet<>();
            for (int o = 1; o < ages.size(); o++) {
                Integer lock = locks.get(o).get(s);
                if (o != t && lock != null && !together(lock, option)) {
                    found.add(o);
                }
            }
            return found;
        }

        int ask(int t, int s, int option) {
            if (!isTask(t)) {
                return -2;
            }
            if (!isSegment(s) || option < 0 || option > 3) {
                return -4;
            }
            if (states.get(t) != 0) {
                return -5;
            }
            if (option == 3) {
                looks.get(t).add(s);
                return 1;
            }
            Integer has = locks.get(t).get(s);
            if (has != null && has >= option) {
                return 1;
            }
            if (has == null && limit != 0 && locks.get(t).size() + 1 > limit) {
                dead(t);
                return -3;
            }
            if (notTogether(t, s, option).isEmpty() && (has != null || rows.get(s).isEmpty())) {
                locks.get(t).put(s, option);
                return 1;
            }
            return comeToWait(t, s, option, has != null);
        }

        private int comeToWait(int t, int s, int option, boolean hasLock) {
            List<Integer> row = rows.get(s);
            int place = row.size();
            if (hasLock) {
                place = 0;
                while (place < row.size() && locks.get(row.get(place)).containsKey(s)) {
                    place++;
                }
            }
            row.add(place, t);
            wishes.put(t, option);
            states.set(t, 1);
            boolean itself = false;
            for (List<Integer> found = shortestRing(t); found != null; found = shortestRing(t)) {
                ring = found;
                int youngest = found.get(0);
                for (int o : found) {
                    if (ages.get(o) > ages.get(youngest)
                            || (ages.get(o).equals(ages.get(youngest)) && o > youngest)) {
                        youngest = o;
                    }
                }
                restarts.set(youngest, restarts.get(youngest) + 1);
                itself |= youngest == t;
                clear(youngest, 0);
            }
            return itself ? -1 : states.get(t) == 1 ? 0 : 1;
        }

        private int waitsFor(int t) {
            for (int s = 0; s < 50; s++) {
                if (rows.get(s).contains(t)) {
                    return s;
                }
            }
            return -1;
        }

        private TreeSet<Integer> blockers(int t) {
            int s = waitsFor(t);
            if (s < 0) {
                return new TreeSet<>();
            }
            TreeSet<Integer> found = notTogether(t, s, wishes.get(t));
            found.addAll(rows.get(s).subList(0, rows.get(s).indexOf(t)));
            return found;
        }

        /** How many steps each waiting task is away from the start, by blockers; none: there is no way. */
        private TreeMap<Integer, Integer> stepsTo(int start, TreeMap<Integer, TreeSet<Integer>> blockers) {
            TreeMap<Integer, Integer> steps = new TreeMap<>();
            steps.put(start, 0);
            for (int far = 0; steps.containsValue(far); far++) {
                for (int t : blockers.keySet()) {
                    for (int next : blockers.get(t)) {
                        if (steps.getOrDefault(next, -1) == far) {
                            steps.putIfAbsent(t, far + 1);
                        }
                    }
                }
            }
            return steps;
        }

        /**
         * The least one by numbers of the shortest ones, which is what a look level by level finds.
         * Told by the ways back, so that it is not the same look as that of the class.
         */
        private List<Integer> shortestRing(int start) {
            TreeMap<Integer, TreeSet<Integer>> blockers = new TreeMap<>();
            wishes.keySet().forEach(t -> blockers.put(t, blockers(t)));
            TreeMap<Integer, Integer> steps = stepsTo(start, blockers);
            List<Integer> way = new ArrayList<>();
            for (int at = start; at != start || way.isEmpty(); ) {
                way.add(at);
                int nearest = 0;
                for (int next : blockers.getOrDefault(at, new TreeSet<>())) {
                    if (steps.containsKey(next) && (nearest == 0 || steps.get(next) < steps.get(nearest))) {
                        nearest = next;
                    }
                }
                if (nearest == 0) {
                    return null;
                }
                at = nearest;
            }
            return way;
        }

        private void clear(int t, int stateThen) {
            locks.get(t).clear();
            looks.get(t).clear();
            reads.get(t).clear();
            writes.removeIf(w -> w.task() == t);
            rows.forEach(row -> row.remove((Integer) t));
            wishes.remove(t);
            states.set(t, stateThen);
            for (int s = 0; s < 50; s++) {
                List<Integer> row = rows.get(s);
                while (!row.isEmpty() && notTogether(row.get(0), s, wishes.get(row.get(0))).isEmpty()) {
                    int first = row.remove(0);
                    locks.get(first).put(s, wishes.remove(first));
                    states.set(first, 0);
                }
            }
        }

        int write(int t, int s, long v) {
            if (!isTask(t)) {
                return -2;
            }
            if (!isSegment(s)) {
                return -4;
            }
            if (states.get(t) != 0) {
                return -5;
            }
            if (locks.get(t).getOrDefault(s, 0) == 0) {
                return 0;
            }
            writes.add(new Kept(t, s, v));
            return 1;
        }

        long read(int t, int s) {
            if (!isTask(t) || !isSegment(s)) {
                return ARGUMENT;
            }
            boolean locked = locks.get(t).containsKey(s);
            if (states.get(t) != 0 || (!locked && !looks.get(t).contains(s))) {
                return STATE;
            }
            long seen = agreed[s];
            boolean own = false;
            for (Kept w : writes) {
                if (w.segment() == s && w.task() == t) {
                    own = true;
                    seen = w.number();
                }
                if (w.segment() == s && !own && !locked) {
                    seen = w.number();
                }
            }
            if (!own) {
                reads.get(t).add(new Seen(s, agreed[s], seen));
            }
            return seen;
        }

        private int written(int t) {
            return (int) writes.stream().filter(w -> w.task() == t).mapToInt(Kept::segment).distinct().count();
        }

        private void agree(int t) {
            for (Seen r : reads.get(t)) {
                if (r.agreedThen() != agreed[r.segment()] || r.number() != agreed[r.segment()]) {
                    serial = false;
                }
            }
            for (Kept w : writes) {
                if (w.task() == t) {
                    agreed[w.segment()] = w.number();
                }
            }
            clear(t, 0);
        }

        int sync(int t) {
            if (!isTask(t) || states.get(t) != 0) {
                return isTask(t) ? -5 : -2;
            }
            int count = written(t);
            agree(t);
            return count;
        }

        int checkpoint(int t) {
            if (!isTask(t) || states.get(t) != 0) {
                return isTask(t) ? -5 : -2;
            }
            int count = locks.get(t).size();
            agree(t);
            return count;
        }

        int backout(int t) {
            if (!isTask(t) || states.get(t) == 2) {
                return isTask(t) ? -5 : -2;
            }
            int count = written(t);
            clear(t, 0);
            return count;
        }

        int dead(int t) {
            if (!isTask(t)) {
                return -2;
            }
            int count = locks.get(t).size();
            clear(t, 2);
            return count;
        }

        int limit(int n) {
            int before = limit;
            if (n < 0) {
                return -4;
            }
            limit = n;
            return before;
        }

        int ring(int i) {
            return i >= 0 && i < ring.size() ? ring.get(i) : 0;
        }

        int holder(int s) {
            if (!isSegment(s)) {
                return -4;
            }
            for (int option = 2; option >= 0; option--) {
                for (int t = 1; t < ages.size(); t++) {
                    if (locks.get(t).getOrDefault(s, -1) == option) {
                        return t;
                    }
                }
            }
            return 0;
        }

        long value(int s) {
            return isSegment(s) ? agreed[s] : ARGUMENT;
        }

        int state(int t, int what) {
            if (!isTask(t)) {
                return -1;
            }
            int s = waitsFor(t);
            return switch (what) {
                case 0 -> states.get(t);
                case 1 -> locks.get(t).size();
                case 2 -> written(t);
                case 3 -> restarts.get(t);
                case 4 -> s;
                case 5 -> s < 0 ? 0 : rows.get(s).indexOf(t);
                default -> -1;
            };
        }
    }

    private static long read(SegmentLocks x, int t, int s) {
        try {
            return x.read(t, s);
        } catch (IllegalArgumentException e) {
            return ARGUMENT;
        } catch (IllegalStateException e) {
            return STATE;
        }
    }

    private static long value(SegmentLocks x, int s) {
        try {
            return x.value(s);
        } catch (IllegalArgumentException e) {
            return ARGUMENT;
        }
    }

    private static int wrong = 0;
    private static final TreeMap<String, Integer> met = new TreeMap<>();

    private static void due(int run, String call, long got, long want) {
        if (got != want) {
            wrong++;
            System.out.println("run " + run + ": " + call + " answered " + got + ", due is " + want);
        }
    }

    private static int pick(Random random, int from, int count) {
        int[] odd = {-1, 0, 31, 50, Integer.MIN_VALUE, Integer.MAX_VALUE};
        return random.nextInt(60) == 0 ? odd[random.nextInt(odd.length)] : from + random.nextInt(count);
    }

    private static void call(int run, Random random, SegmentLocks x, Model m, int taskCount, int segmentCount) {
        int t = pick(random, 1, taskCount);
        for (int again = 0; again < 3 && m.state(t, 0) > 0; again++) {
            t = pick(random, 1, taskCount);
        }
        int s = pick(random, 50 - segmentCount, segmentCount);
        int o = pick(random, 0, 4);
        long v = random.nextInt(3);
        int kind = random.nextInt(100);
        if (kind < 50) {
            int want = m.ask(t, s, o);
            met.merge("ask answers " + want, 1, Integer::sum);
            due(run, "ask(" + t + ", " + s + ", " + o + ")", x.ask(t, s, o), want);
            if (o == 3 && random.nextBoolean()) {
                due(run, "read(" + t + ", " + s + ")", read(x, t, s), m.read(t, s));
            }
        } else if (kind < 65) {
            due(run, "write(" + t + ", " + s + ", " + v + ")", x.write(t, s, v), m.write(t, s, v));
        } else if (kind < 80) {
            due(run, "read(" + t + ", " + s + ")", read(x, t, s), m.read(t, s));
        } else if (kind < 88) {
            due(run, "sync(" + t + ")", x.sync(t), m.sync(t));
        } else if (kind < 92) {
            due(run, "checkpoint(" + t + ")", x.checkpoint(t), m.checkpoint(t));
        } else if (kind < 96) {
            due(run, "backout(" + t + ")", x.backout(t), m.backout(t));
        } else if (kind < 97) {
            int n = random.nextInt(3) == 0 ? 4 + o : 0;
            due(run, "limit(" + n + ")", x.limit(n), m.limit(n));
        } else if (kind < 98 && random.nextInt(6) == 0) {
            due(run, "dead(" + t + ")", x.dead(t), m.dead(t));
        } else {
            due(run, "task(" + v + ")", x.task((int) v), m.task((int) v));
        }
    }

    private static void compareAll(int run, SegmentLocks x, Model m) {
        for (int t = 0; t <= 31; t++) {
            for (int what = -1; what <= 6; what++) {
                due(run, "state(" + t + ", " + what + ")", x.state(t, what), m.state(t, what));
            }
            due(run, "ring(" + (t - 1) + ")", x.ring(t - 1), m.ring(t - 1));
        }
        for (int s = -1; s <= 50; s++) {
            due(run, "holder(" + s + ")", x.holder(s), m.holder(s));
            due(run, "value(" + s + ")", value(x, s), m.value(s));
        }
        due(run, "serial()", x.serial() ? 1 : 0, m.serial ? 1 : 0);
    }

    private static void run(int run) {
        Random random = new Random(run);
        SegmentLocks x = new SegmentLocks();
        Model m = new Model();
        int taskCount = 1 + random.nextInt(30);
        int segmentCount = 1 + random.nextInt(random.nextBoolean() ? 6 : 50);
        for (int i = 0; i < taskCount; i++) {
            int age = random.nextInt(9) - 4;
            due(run, "task(" + age + ")", x.task(age), m.task(age));
        }
        for (int i = 0; i < 480 && wrong == 0; i++) {
            call(run, random, x, m, taskCount, segmentCount);
            if (i % 8 == 0) {
                compareAll(run, x, m);
            }
        }
        compareAll(run, x, m);
        met.merge(m.serial ? "serial at the end" : "not serial at the end", 1, Integer::sum);
        met.merge("ring of " + m.ring.size(), 1, Integer::sum);
    }

    public static void main(String[] args) {
        for (int run = 1; run <= RUNS && wrong == 0; run++) {
            run(run);
        }
        System.out.println(met);
        System.out.println(wrong == 0 ? "all answers are as due" : wrong + " answers are not as due");
        if (wrong != 0) {
            System.exit(1);
        }
    }
}
