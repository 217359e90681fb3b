import java.util.Random;

/**
 * Runs of calls by fixed seeds, on the program and on PlainKernel: all answers must be the same.
 * Some of the calls are to be refused. An object has its 512 calls and no more.
 */
public final class AgainstPlainTest {
    private static final int RUNS = 8000;
    private static final int CALLS = 512;
    private static final long[] ODD = {-1, 0, 1, 2, 3, 4, 8, 9, 13, 14, 15, 16, 17, 32, 33, 100, 101, 255, 256,
        10000, 10001, 49999, 50000, 50001, 65535, 65536, 65537, 131072, 131073, 6619135, 6619136,
        Integer.MIN_VALUE, Integer.MAX_VALUE, 1L << 32, (1L << 32) + 1, Long.MIN_VALUE, Long.MAX_VALUE};

    private final Random random;
    private final String name;
    private final int cores;
    private final int tasks;
    private final int locks;
    private final int resources;

    /** Most tasks are on cores 0 and 1, many are not FULL, and interrupts are many and long. */
    private final boolean crowded;
    private final TaskCores x;
    private final PlainKernel plain;
    private int calls;

    private AgainstPlainTest(long seed) {
        random = new Random(seed);
        name = "seed " + seed + ", call ";
        int told = oneIn(10) ? (int) odd() : 1 + random.nextInt(random.nextBoolean() ? 2 : 8);
        x = new TaskCores(told);
        plain = new PlainKernel(told);
        cores = plain.cores;
        tasks = 1 + random.nextInt(random.nextInt(4) == 0 ? 20 : 6);
        locks = 1 + random.nextInt(3);
        resources = 1 + random.nextInt(4);
        crowded = oneIn(3);
    }

    public static void main(String[] args) {
        long first = args.length > 0 ? Long.parseLong(args[0]) : 1;
        long runs = args.length > 1 ? Long.parseLong(args[1]) : RUNS;
        for (long seed = first; seed < first + runs; seed++) {
            new AgainstPlainTest(seed).compare();
        }
        Check.end();
    }

    private void compare() {
        makeTasks();
        int stretches = 1 + random.nextInt(5);
        for (int i = 0; i < stretches && calls < 400; i++) {
            tellThings();
            long micros = random.nextInt(random.nextInt(3) == 0 ? 300 : 40);
            run(random.nextInt(1000) == 0 ? 50000 - plain.now() : micros);
            for (int question = 0; question < 20; question++) {
                ask();
            }
        }
        while (calls < CALLS) {
            ask();
        }
    }

    private void due(String call, long got, long want) {
        calls++;
        Check.due(name + calls + ": " + call, got, want);
    }

    private boolean oneIn(int n) {
        return random.nextInt(n) == 0;
    }

    private long odd() {
        return ODD[random.nextInt(ODD.length)];
    }

    /** Mostly a number from the first one on, sometimes any. */
    private int oneOf(int first, int count) {
        return oneIn(12) ? (int) odd() : first + random.nextInt(count);
    }

    private void makeTasks() {
        int ranks = 1 + random.nextInt(6);
        for (int made = 0; made < tasks; ) {
            int rank = oneOf(0, ranks);
            int core = oneOf(0, crowded ? Math.min(2, cores) : cores);
            boolean extended = oneIn(3);
            int bound = extended && !oneIn(9) ? 1 : oneOf(1, 3);
            int answer = plain.task(rank, core, bound, extended);
            due("task", x.task(rank, core, bound, extended), answer);
            made += answer > 0 ? 1 : 0;
            int changed = oneIn(9) ? oneOf(1, tasks) : made;
            boolean full = !oneIn(crowded ? 2 : 3);
            due("manner", x.manner(changed, full), plain.manner(changed, full));
        }
        boolean orderly = random.nextBoolean();
        int parts = random.nextInt(tasks * 6);
        for (int i = 0; i < parts && calls < 250; i++) {
            int task = oneOf(1, tasks);
            if (orderly && random.nextBoolean()) {
                addPair(task, 1);
            } else {
                int kind = oneIn(3) ? 0 : oneOf(0, 14);
                addPart(task, kind, oneIn(12) ? odd() : value(kind));
            }
        }
    }

    /** GET and FREE, LOCK and UNLOCK, or OFF and ON, with something or one more pair between them. */
    private void addPair(int task, int depth) {
        int first = new int[] {6, 6, 8, 8, 12}[random.nextInt(5)];
        long v = value(first);
        addPart(task, first, v);
        if (depth < 3 && oneIn(3)) {
            addPair(task, depth + 1);
        }
        int between = oneIn(4) ? random.nextInt(14) : 0;
        addPart(task, between, value(between));
        addPart(task, first + 1, first == 12 ? 0 : v);
    }

    private void addPart(int task, int kind, long v) {
        due("part", x.part(task, kind, v), plain.part(task, kind, v));
    }

    private long value(int kind) {
        switch (kind) {
            case 0:
                return 1 + random.nextInt(oneIn(4) ? 30 : 4);
            case 1:
            case 2:
                return 1 + random.nextInt(oneIn(8) ? 100 : tasks);
            case 3:
            case 5:
                return 1 + random.nextInt(7);
            case 4:
                return 65536L * (1 + random.nextInt(oneIn(8) ? 100 : tasks)) + 1 + random.nextInt(7);
            case 6:
            case 7:
                return 1 + random.nextInt(resources);
            case 8:
            case 9:
                return 1 + random.nextInt(locks);
            case 12:
                return 1 + random.nextInt(12);
            default:
                return 0;
        }
    }

    private void tellThings() {
        int activations = random.nextInt(Math.min(20, tasks * 3));
        for (int i = 0; i < activations; i++) {
            int task = oneOf(1, tasks);
            long t = oneIn(20) ? odd() : plain.now() + random.nextInt(60);
            due("activate", x.activate(task, t), plain.activate(task, t));
        }
        int interrupts = random.nextInt(crowded ? 9 : 4);
        for (int i = 0; i < interrupts; i++) {
            int level = random.nextBoolean() ? oneOf(1, 15) : oneOf(6, 3);
            long at = oneIn(20) ? odd() : plain.now() + random.nextInt(40);
            long micros = oneIn(20) ? odd() : 1 + random.nextInt(crowded ? 15 : 9);
            due("interrupt", x.interrupt(level, at, micros), plain.interrupt(level, at, micros));
        }
        int events = random.nextInt(3);
        for (int i = 0; i < events; i++) {
            int task = oneOf(1, tasks);
            int e = oneOf(1, 7);
            due("event", x.event(task, e), plain.event(task, e));
        }
        if (oneIn(4)) {
            tellTooLate();
        }
        if (oneIn(4)) {
            run(oneIn(2) ? -1 : 50001 - plain.now());
        }
    }

    private void tellTooLate() {
        if (plain.now() > 0) {
            due("task", x.task(1, 0, 1, false), plain.task(1, 0, 1, false));
            due("part", x.part(1, 0, 1), plain.part(1, 0, 1));
            due("manner", x.manner(1, false), plain.manner(1, false));
        }
    }

    private void run(long micros) {
        due("run(" + micros + ")", x.run(micros), plain.run(micros));
    }

    private void ask() {
        int task = oneOf(1, tasks);
        int core = oneOf(0, cores);
        int what = oneOf(0, 3);
        switch (random.nextInt(10)) {
            case 0:
                due("now()", x.now(), plain.now());
                break;
            case 1:
                long t = oneIn(12) ? odd() : random.nextInt((int) plain.now() + 1);
                due("running(" + core + ", " + t + ")", x.running(core, t), plain.running(core, t));
                break;
            case 2:
                due("used(" + task + ")", x.used(task), plain.used(task));
                break;
            case 3:
                due("state(" + task + ")", x.state(task), plain.state(task));
                break;
            case 4:
                due("events(" + task + ")", x.events(task), plain.events(task));
                break;
            case 5:
            case 6:
                int code = oneOf(-1, Math.min(1000, plain.codes.size()) + 2);
                due("code(" + code + ", " + what + ")", x.code(code, what), plain.code(code, what));
                break;
            case 7:
                int order = oneOf(-1, plain.switches.size() + 2);
                due("order(" + order + ", " + what + ")", x.order(order, what), plain.order(order, what));
                break;
            case 8:
                int lock = oneOf(1, locks);
                due("spin(" + core + ", " + lock + ")", x.spin(core, lock), plain.spin(core, lock));
                break;
            default:
                int resource = oneOf(1, resources);
                due("holder(" + resource + ")", x.holder(resource), plain.holder(resource));
                break;
        }
    }
}
