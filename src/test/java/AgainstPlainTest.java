import java.util.Random;

/** Runs of calls by fixed seeds, on the program and on PlainKernel: all answers must be the same. */
public final class AgainstPlainTest {
    private static final int RUNS = 6000;

    private final Random random;
    private final String name;
    private final int cores;
    private final int tasks;
    private final int locks;
    private final int resources;
    private final TaskCores x;
    private final PlainKernel plain;

    private AgainstPlainTest(long seed) {
        random = new Random(seed);
        name = "seed " + seed + ": ";
        cores = 1 + random.nextInt(random.nextBoolean() ? 2 : 8);
        tasks = 1 + random.nextInt(random.nextInt(4) == 0 ? 20 : 6);
        locks = 1 + random.nextInt(3);
        resources = 1 + random.nextInt(4);
        x = new TaskCores(cores);
        plain = new PlainKernel(cores);
    }

    public static void main(String[] args) {
        long first = args.length > 0 ? Long.parseLong(args[0]) : 1;
        long runs = args.length > 1 ? Long.parseLong(args[1]) : RUNS;
        for (long seed = first; seed < first + runs; seed++) {
            new AgainstPlainTest(seed).compare();
        }
        Check.end();
    }

    private void compare() {
        makeTasks();
        int stretches = 1 + random.nextInt(5);
        for (int i = 0; i < stretches; i++) {
            tellThings();
            int micros = random.nextInt(random.nextInt(3) == 0 ? 300 : 40);
            Check.due(name + "run(" + micros + ")", x.run(micros), plain.run(micros));
            compareStates();
        }
        compareHistory();
    }

    private void makeTasks() {
        int ranks = 1 + random.nextInt(6);
        for (int task = 1; task <= tasks; task++) {
            int rank = random.nextInt(ranks);
            int core = random.nextInt(cores);
            boolean extended = random.nextInt(3) == 0;
            int bound = extended ? 1 : 1 + random.nextInt(3);
            Check.due(name + "task", x.task(rank, core, bound, extended), task);
            plain.task(rank, core, bound, extended);
            boolean full = random.nextInt(3) != 0;
            Check.due(name + "manner", x.manner(task, full), 1);
            plain.manner(task, full);
        }
        boolean orderly = random.nextBoolean();
        int parts = random.nextInt(tasks * 6);
        for (int i = 0; i < parts; i++) {
            int task = 1 + random.nextInt(tasks);
            if (orderly && random.nextBoolean()) {
                addPair(task);
            } else {
                int kind = random.nextInt(3) == 0 ? 0 : random.nextInt(14);
                addPart(task, kind, value(kind));
            }
        }
    }

    /** GET and FREE, LOCK and UNLOCK, or OFF and ON, with something between them. */
    private void addPair(int task) {
        int first = new int[] {6, 8, 8, 12}[random.nextInt(4)];
        long v = value(first);
        addPart(task, first, v);
        int between = random.nextInt(4) == 0 ? random.nextInt(14) : 0;
        addPart(task, between, value(between));
        addPart(task, first + 1, first == 12 ? 0 : v);
    }

    private void addPart(int task, int kind, long v) {
        plain.part(task, kind, v);
        Check.due(name + "part", x.part(task, kind, v), plain.tasks.get(task - 1).parts.size());
    }

    private long value(int kind) {
        switch (kind) {
            case 0:
                return 1 + random.nextInt(random.nextInt(4) == 0 ? 30 : 4);
            case 1:
            case 2:
                return 1 + random.nextInt(random.nextInt(8) == 0 ? 100 : tasks);
            case 3:
            case 5:
                return 1 + random.nextInt(7);
            case 4:
                return 65536L * (1 + random.nextInt(random.nextInt(8) == 0 ? 100 : tasks)) + 1 + random.nextInt(7);
            case 6:
            case 7:
                return 1 + random.nextInt(resources);
            case 8:
            case 9:
                return 1 + random.nextInt(locks);
            case 12:
                return 1 + random.nextInt(12);
            default:
                return 0;
        }
    }

    private void tellThings() {
        int activations = random.nextInt(tasks * 3);
        for (int i = 0; i < activations; i++) {
            int task = 1 + random.nextInt(tasks);
            long t = plain.now + random.nextInt(60);
            Check.due(name + "activate", x.activate(task, t), 1);
            plain.activate(task, t);
        }
        int interrupts = random.nextInt(4);
        for (int i = 0; i < interrupts; i++) {
            int level = random.nextBoolean() ? 1 + random.nextInt(15) : 6 + random.nextInt(3);
            long at = plain.now + random.nextInt(40);
            long micros = 1 + random.nextInt(9);
            plain.interrupt(level, at, micros);
            Check.due(name + "interrupt", x.interrupt(level, at, micros), plain.interrupts.size());
        }
        int events = random.nextInt(3);
        for (int i = 0; i < events; i++) {
            int task = 1 + random.nextInt(tasks);
            int e = 1 + random.nextInt(7);
            Check.due(name + "event", x.event(task, e), plain.event(task, e) ? 1 : -3);
        }
    }

    private void compareStates() {
        Check.due(name + "now()", x.now(), plain.now);
        for (PlainKernel.Task t : plain.tasks) {
            String of = "(" + t.number + ") at " + plain.now;
            Check.due(name + "state" + of, x.state(t.number), t.state);
            Check.due(name + "used" + of, x.used(t.number), t.used);
            Check.due(name + "events" + of, x.events(t.number), t.events);
        }
        for (int lock = 1; lock <= locks; lock++) {
            for (int core = 0; core < cores; core++) {
                Check.due(name + "spin(" + core + ", " + lock + ")", x.spin(core, lock), plain.spin(core, lock));
            }
        }
        for (int resource = 1; resource <= resources; resource++) {
            Check.due(name + "holder(" + resource + ")", x.holder(resource), plain.holder(resource));
        }
    }

    private void compareHistory() {
        Check.due(name + "how many codes", x.code(-1, 0), plain.codes.size());
        int kept = Math.min(1000, plain.codes.size());
        Check.due(name + "codes", Check.codes(x), String.join(" ", plain.codes.subList(0, kept)));
        Check.due(name + "switches", Check.switches(x), String.join(" ", plain.switches));
        for (int t = 0; t < plain.now; t++) {
            for (int core = 0; core < cores; core++) {
                Check.due(name + "running(" + core + ", " + t + ")", x.running(core, t), plain.whos.get(t)[core]);
            }
        }
    }
}
