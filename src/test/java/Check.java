/** Compares answers with those that are due, and ends the program with 1 if one was wrong. */
final class Check {
    private static int wrong = 0;
    private static int checked = 0;

    private Check() {
    }

    static void due(String call, long got, long want) {
        checked++;
        if (got != want) {
            wrong++;
            System.out.println(call + " answered " + got + ", due is " + want);
        }
    }

    static void due(String what, String got, String want) {
        checked++;
        if (!got.equals(want)) {
            wrong++;
            System.out.println(what + " is [" + got + "], due is [" + want + "]");
        }
    }

    /** All SWITCHES as "time:core:who", with spaces between. */
    static String switches(TaskCores x) {
        return rows(x.order(-1, 0), i -> x.order(i, 0) + ":" + x.order(i, 1) + ":" + x.order(i, 2));
    }

    /** All codes that are kept as "code:task:time", with spaces between. */
    static String codes(TaskCores x) {
        int kept = Math.min(1000, x.code(-1, 0));
        return rows(kept, i -> x.code(i, 0) + ":" + x.code(i, 1) + ":" + x.code(i, 2));
    }

    /** A task with its parts, each part a kind and a v. */
    static int taskWith(TaskCores x, int rank, int core, boolean extended, long... parts) {
        int task = x.task(rank, core, 1, extended);
        addParts(x, task, parts);
        return task;
    }

    static void addParts(TaskCores x, int task, long... parts) {
        for (int i = 0; i + 1 < parts.length; i += 2) {
            due("part " + i / 2 + " of task " + task + " taken", x.part(task, (int) parts[i], parts[i + 1]) > 0 ? 1 : 0, 1);
        }
    }

    static void end() {
        System.out.println(checked + " checks, " + wrong + " wrong");
        if (wrong != 0) {
            System.exit(1);
        }
    }

    private static String rows(int count, java.util.function.IntFunction<String> row) {
        StringBuilder text = new StringBuilder();
        for (int i = 0; i < count; i++) {
            text.append(i == 0 ? "" : " ").append(row.apply(i));
        }
        return text.toString();
    }
}
