/** Promise 3: part. */
public final class PartTest {
    private static final long[] LEAST = {1, 1, 1, 1, 65537, 1, 1, 1, 1, 1, 0, 0, 1, 0};
    private static final long[] MOST = {50000, 100, 100, 65535, 6619135, 65535, 32, 32, 16, 16, 0, 0, 50000, 0};

    public static void main(String[] args) {
        howManyItHas();
        noTask();
        noSuchKind();
        for (int kind = 0; kind < LEAST.length; kind++) {
            mayNotBeThere(kind);
        }
        setWithoutEvents();
        ofTasksThatThereAreNot();
        timeWentByAlready();
        thereAreFiveHundred();
        fiveHundredOfAllTasks();
        theFirstThatFits();
        refusedIsNotInTheRow();
        refusedTakesNoRoom();
        refusedGivesNoCeiling();
        Check.end();
    }

    /** "A part at the end of a task's row: how many it has." */
    private static void howManyItHas() {
        TaskCores x = new TaskCores(1);
        x.task(1, 0, 1, false);
        x.task(1, 0, 1, false);
        Check.due("first of task 1", x.part(1, 0, 3), 1);
        Check.due("first of task 2", x.part(2, 0, 1), 1);
        Check.due("second of task 1", x.part(1, 2, 2), 2);
        Check.due("third of task 1", x.part(1, 0, 7), 3);
        Check.due("second of task 2", x.part(2, 0, 1), 2);
        x.activate(1, 0);
        x.run(20);
        Check.due("in the order of telling", Check.switches(x), "0:0:1 4:0:2 7:0:0");
    }

    /** "-1 there is no task". */
    private static void noTask() {
        TaskCores x = new TaskCores(1);
        Check.due("task 1 of none", x.part(1, 0, 1), -1);
        x.task(1, 0, 1, false);
        x.task(1, 0, 1, false);
        int[] unknown = {0, -1, 3, 100, 101, Integer.MIN_VALUE, Integer.MAX_VALUE};
        for (int task : unknown) {
            Check.due("task " + task, x.part(task, 0, 1), -1);
        }
        Check.due("task 1", x.part(1, 0, 1), 1);
        Check.due("task 2", x.part(2, 0, 1), 1);
    }

    /** "-2 no such kind": 0 .. 13 are. */
    private static void noSuchKind() {
        TaskCores x = new TaskCores(1);
        x.task(1, 0, 1, false);
        int[] unknown = {-1, 14, 15, Integer.MIN_VALUE, Integer.MAX_VALUE};
        for (int kind : unknown) {
            Check.due("kind " + kind + " with 0", x.part(1, kind, 0), -2);
            Check.due("kind " + kind + " with 1", x.part(1, kind, 1), -2);
        }
        Check.due("kind 0", x.part(1, 0, 1), 1);
        Check.due("kind 13", x.part(1, 13, 0), 2);
    }

    /** "-2 .. v may not be there", kind by kind: the last ones that may be, and those beside them. */
    private static void mayNotBeThere(int kind) {
        TaskCores x = new TaskCores(1);
        x.task(1, 0, 1, false);
        String name = Check.KINDS.get(kind) + " ";
        long[] wrong = {LEAST[kind] - 1, MOST[kind] + 1, -1, -LEAST[kind] - 1, 4294967296L + LEAST[kind],
            Long.MIN_VALUE, Long.MIN_VALUE + LEAST[kind], Long.MAX_VALUE};
        for (long v : wrong) {
            Check.due(name + v, x.part(1, kind, v), -2);
        }
        Check.due(name + LEAST[kind], x.part(1, kind, LEAST[kind]), 1);
        Check.due(name + MOST[kind], x.part(1, kind, MOST[kind]), 2);
        for (long v : wrong) {
            Check.due(name + v + " behind others", x.part(1, kind, v), -2);
        }
    }

    /** "SET 65537 .. 6619135 with EVENTS other than 0". */
    private static void setWithoutEvents() {
        TaskCores x = new TaskCores(1);
        x.task(1, 0, 1, false);
        for (int task = 0; task <= 101; task++) {
            Check.due("SET " + task + ":0", x.part(1, 4, task * 65536L), -2);
        }
        Check.due("SET 0:65535", x.part(1, 4, 65535), -2);
        Check.due("SET 101:1", x.part(1, 4, 101 * 65536L + 1), -2);
        Check.due("SET 1:65535", x.part(1, 4, 2 * 65536L - 1), 1);
        Check.due("SET 2:1", x.part(1, 4, 2 * 65536L + 1), 2);
        Check.due("SET 99:65535", x.part(1, 4, 100 * 65536L - 1), 3);
        Check.due("SET 100:1", x.part(1, 4, 100 * 65536L + 1), 4);
    }

    /** "(ACTIVATE, CHAIN 1 .. 100, SET ..)": a task that there is not may be in a part. */
    private static void ofTasksThatThereAreNot() {
        TaskCores x = new TaskCores(1);
        x.task(1, 0, 1, false);
        Check.due("ACTIVATE 2", x.part(1, 1, 2), 1);
        Check.due("ACTIVATE 100", x.part(1, 1, 100), 2);
        Check.due("CHAIN 100", x.part(1, 2, 100), 3);
        Check.due("SET 100:65535", x.part(1, 4, 6619135), 4);
    }

    /** "-3 time went by already". */
    private static void timeWentByAlready() {
        TaskCores x = new TaskCores(1);
        x.task(1, 0, 1, false);
        x.run(0);
        Check.due("after run(0)", x.part(1, 0, 1), 1);
        x.run(-1);
        Check.due("after a run that was refused", x.part(1, 0, 1), 2);
        x.run(1);
        Check.due("after run(1)", x.part(1, 0, 1), -3);
        x.activate(1, 1);
        x.run(9);
        Check.due("START and two parts", x.used(1), 3);
        Check.due("at 10", x.part(1, 0, 1), -3);
    }

    /** "-4 there are 500": of one task; the last one is done, the one that was refused is not. */
    private static void thereAreFiveHundred() {
        TaskCores x = new TaskCores(1);
        x.task(1, 0, 1, false);
        for (int i = 1; i <= 500; i++) {
            Check.due("part " + i, x.part(1, 0, 1), i);
        }
        Check.due("part 501", x.part(1, 0, 1), -4);
        Check.due("part 501 of another kind", x.part(1, 11, 0), -4);
        x.activate(1, 0);
        x.run(600);
        Check.due("START and 500 parts", x.used(1), 501);
        Check.due("state(1)", x.state(1), 0);
    }

    /** "at most 500 of all tasks". */
    private static void fiveHundredOfAllTasks() {
        TaskCores x = new TaskCores(2);
        x.task(1, 0, 1, false);
        x.task(1, 1, 1, false);
        for (int i = 1; i <= 250; i++) {
            Check.due("part of 1", x.part(1, 0, 1), i);
            Check.due("part of 2", x.part(2, 0, 1), i);
        }
        Check.due("one more of 1", x.part(1, 0, 1), -4);
        Check.due("one more of 2", x.part(2, 0, 1), -4);
        Check.due("and of one without parts", x.part(x.task(1, 0, 1, false), 0, 1), -4);
    }

    /** "REFUSALS .. the first that fits". */
    private static void theFirstThatFits() {
        TaskCores x = new TaskCores(1);
        Check.due("no task, no kind", x.part(1, 14, 0), -1);
        x.task(1, 0, 1, false);
        for (int i = 1; i <= 500; i++) {
            x.part(1, 0, 1);
        }
        Check.due("full: no task", x.part(2, 0, 1), -1);
        Check.due("full: no kind", x.part(1, 14, 1), -2);
        Check.due("full: no v", x.part(1, 0, 50001), -2);
        x.run(1);
        Check.due("full and time went by: no task", x.part(2, 0, 1), -1);
        Check.due("full and time went by: no kind", x.part(1, -1, 1), -2);
        Check.due("full and time went by: no v", x.part(1, 0, 0), -2);
        Check.due("full and time went by", x.part(1, 0, 1), -3);
    }

    private static void refusedIsNotInTheRow() {
        TaskCores x = new TaskCores(1);
        x.task(1, 0, 1, false);
        x.part(1, 0, 2);
        x.part(2, 0, 50);
        x.part(1, 14, 0);
        x.part(1, 0, 50001);
        x.part(1, 11, 1);
        Check.due("the second part", x.part(1, 0, 3), 2);
        x.activate(1, 0);
        x.run(2);
        x.part(1, 0, 10);
        x.run(18);
        Check.due("START, 2 and 3", x.used(1), 6);
        Check.due("codes", Check.codes(x), "");
    }

    /** What was refused is not one of the 500. */
    private static void refusedTakesNoRoom() {
        TaskCores x = new TaskCores(1);
        x.task(1, 0, 1, false);
        Check.due("no task", x.part(2, 0, 1), -1);
        Check.due("no kind", x.part(1, 14, 0), -2);
        Check.due("no v", x.part(1, 0, 0), -2);
        for (int i = 1; i <= 500; i++) {
            Check.due("room for part " + i, x.part(1, 13, 0), i);
        }
        Check.due("no room", x.part(1, 13, 0), -4);
    }

    /** Task 2 of rank 5 comes between: resource 1, held by task 1, has the CEILING 1. */
    private static void refusedGivesNoCeiling() {
        TaskCores x = new TaskCores(1);
        Check.task(x, 1, 0, "GET 1, RUN 5, FREE 1, RUN 5");
        Check.task(x, 5, 0, "RUN 2");
        Check.due("GET 33 by rank 5", x.part(2, 6, 33), -2);
        Check.due("GET 2 to the 32nd and 1 by rank 5", x.part(2, 6, 4294967297L), -2);
        x.activate(1, 0);
        x.activate(2, 3);
        x.run(1);
        Check.due("GET 1 by rank 5, too late", x.part(2, 6, 1), -3);
        x.run(29);
        Check.due("switches", Check.switches(x), "0:0:1 3:0:2 6:0:1 14:0:0");
        Check.due("codes", Check.codes(x), "");
    }
}
