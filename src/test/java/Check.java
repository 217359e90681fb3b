import java.util.List;
import java.util.function.IntFunction;

/** Compares answers with those that are due, and ends the program with 1 if one was wrong. */
final class Check {
    static final List<String> KINDS = List.of("RUN", "ACTIVATE", "CHAIN", "WAIT", "SET", "CLEAR", "GET",
        "FREE", "LOCK", "UNLOCK", "SCHEDULE", "END", "OFF", "ON");

    private static int wrong = 0;
    private static int checked = 0;

    private Check() {
    }

    static void due(String call, long got, long want) {
        checked++;
        if (got != want) {
            wrong++;
            System.out.println(call + " answered " + got + ", due is " + want);
        }
    }

    static void due(String what, String got, String want) {
        checked++;
        if (!got.equals(want)) {
            wrong++;
            System.out.println(what + " is [" + got + "], due is [" + want + "]");
        }
    }

    /** All SWITCHES as "time:core:who", with spaces between. */
    static String switches(TaskCores x) {
        return rows(x.order(-1, 0), i -> x.order(i, 0) + ":" + x.order(i, 1) + ":" + x.order(i, 2));
    }

    /** All codes that are kept as "code:task:time", with spaces between. */
    static String codes(TaskCores x) {
        int kept = Math.min(1000, x.code(-1, 0));
        return rows(kept, i -> x.code(i, 0) + ":" + x.code(i, 1) + ":" + x.code(i, 2));
    }

    /**
     * All that can be asked of so many cores and tasks, but for who ran when, as one text. An
     * object has 512 calls, so this is for short runs.
     */
    static String all(TaskCores x, int cores, int tasks) {
        StringBuilder text = new StringBuilder("now " + x.now());
        for (int task = 1; task <= tasks + 1; task++) {
            text.append(", " + task + ": " + x.state(task) + " " + x.used(task) + " " + x.events(task));
        }
        for (int resource = 1; resource <= 4; resource++) {
            text.append(", holder " + x.holder(resource));
        }
        for (int core = 0; core < cores; core++) {
            text.append(", spin " + x.spin(core, 1) + " " + x.spin(core, 2));
        }
        return text + ", codes " + codes(x) + ", switches " + switches(x);
    }

    /** A task of one activation that is not EXTENDED; its parts as in "RUN 5, SET 2:1, END". */
    static int task(TaskCores x, int rank, int core, String parts) {
        return task(x, rank, core, 1, parts);
    }

    static int task(TaskCores x, int rank, int core, int bound, String parts) {
        int task = x.task(rank, core, bound, false);
        addParts(x, task, parts);
        return task;
    }

    static int extended(TaskCores x, int rank, int core, String parts) {
        int task = x.task(rank, core, 1, true);
        addParts(x, task, parts);
        return task;
    }

    private static void addParts(TaskCores x, int task, String parts) {
        int count = 0;
        for (String part : parts.isEmpty() ? new String[0] : parts.split(", ")) {
            String[] words = part.split(" ");
            long v = words.length < 2 ? 0 : value(words[1]);
            count++;
            due(part + " of task " + task, x.part(task, KINDS.indexOf(words[0]), v), count);
        }
    }

    /** "2:5" is task 2 and EVENTS 5. */
    private static long value(String text) {
        String[] halves = text.split(":");
        long first = Long.parseLong(halves[0]);
        return halves.length < 2 ? first : first * 65536 + Long.parseLong(halves[1]);
    }

    static void end() {
        System.out.println(checked + " checks, " + wrong + " wrong");
        if (wrong != 0) {
            System.exit(1);
        }
    }

    private static String rows(int count, IntFunction<String> row) {
        StringBuilder text = new StringBuilder();
        for (int i = 0; i < count; i++) {
            text.append(i == 0 ? "" : " ").append(row.apply(i));
        }
        return text.toString();
    }
}
