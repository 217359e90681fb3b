/** Promise 3: part. */
public final class PartTest {
    private static final long[] LEAST = {1, 1, 1, 1, 65537, 1, 1, 1, 1, 1, 0, 0, 1, 0};
    private static final long[] MOST = {50000, 100, 100, 65535, 6619135, 65535, 32, 32, 16, 16, 0, 0, 50000, 0};

    public static void main(String[] args) {
        ranges();
        eventsOfSet();
        refusals();
        atMostFiveHundred();
        refusedOnesDoNothing();
        Check.end();
    }

    private static void ranges() {
        for (int kind = 0; kind < LEAST.length; kind++) {
            TaskCores x = new TaskCores(1);
            x.task(1, 0, 1, false);
            String name = "kind " + kind + ", v ";
            Check.due(name + "least", x.part(1, kind, LEAST[kind]), 1);
            Check.due(name + "most", x.part(1, kind, MOST[kind]), 2);
            Check.due(name + "below least", x.part(1, kind, LEAST[kind] - 1), -2);
            Check.due(name + "above most", x.part(1, kind, MOST[kind] + 1), -2);
            Check.due(name + "-1", x.part(1, kind, -1), -2);
            Check.due(name + "2 to the 32nd and more", x.part(1, kind, 4294967296L + LEAST[kind]), -2);
            Check.due(name + "MIN_VALUE", x.part(1, kind, Long.MIN_VALUE), -2);
            Check.due(name + "MAX_VALUE", x.part(1, kind, Long.MAX_VALUE), -2);
            Check.due(name + "least again", x.part(1, kind, LEAST[kind]), 3);
        }
    }

    private static void eventsOfSet() {
        TaskCores x = new TaskCores(1);
        x.task(1, 0, 1, false);
        Check.due("SET without EVENTS of task 2", x.part(1, 4, 2 * 65536), -2);
        Check.due("SET without EVENTS of task 100", x.part(1, 4, 100 * 65536), -2);
        Check.due("SET all EVENTS of task 2", x.part(1, 4, 2 * 65536 + 65535), 1);
        Check.due("SET of task 0", x.part(1, 4, 1), -2);
    }

    private static void refusals() {
        TaskCores x = new TaskCores(1);
        Check.due("there is no task", x.part(1, 0, 1), -1);
        x.task(1, 0, 1, false);
        x.task(1, 0, 1, false);
        Check.due("task 0", x.part(0, 0, 1), -1);
        Check.due("task -1", x.part(-1, 0, 1), -1);
        Check.due("task 3", x.part(3, 0, 1), -1);
        Check.due("task 101", x.part(101, 0, 1), -1);
        Check.due("task MAX_VALUE", x.part(Integer.MAX_VALUE, 0, 1), -1);
        Check.due("task 3, kind 14", x.part(3, 14, 0), -1);
        Check.due("kind 14", x.part(1, 14, 0), -2);
        Check.due("kind -1", x.part(1, -1, 0), -2);
        Check.due("kind MIN_VALUE", x.part(1, Integer.MIN_VALUE, 1), -2);
        Check.due("each task has a row of its own: 1", x.part(1, 0, 1), 1);
        Check.due("each task has a row of its own: 2", x.part(2, 0, 1), 1);
        Check.due("each task has a row of its own: 1 again", x.part(1, 0, 1), 2);
        x.run(0);
        Check.due("after run(0)", x.part(2, 0, 1), 2);
        x.run(1);
        Check.due("after run(1)", x.part(1, 0, 1), -3);
        Check.due("after run(1), no task", x.part(3, 0, 1), -1);
        Check.due("after run(1), no v", x.part(1, 0, 0), -2);
    }

    private static void atMostFiveHundred() {
        TaskCores x = new TaskCores(1);
        x.task(1, 0, 1, false);
        x.task(1, 0, 1, false);
        for (int i = 1; i <= 250; i++) {
            Check.due("part of 1", x.part(1, 0, 1), i);
            Check.due("part of 2", x.part(2, 0, 1), i);
        }
        Check.due("part 501", x.part(1, 0, 1), -4);
        Check.due("part 501 of no task", x.part(3, 0, 1), -1);
        Check.due("part 501 of no kind", x.part(1, 14, 1), -2);
        x.activate(1, 0);
        x.run(300);
        Check.due("START and 250 parts", x.used(1), 251);
        Check.due("part 501 after time went by", x.part(1, 0, 1), -3);
    }

    /** A GET that was refused gives no CEILING, and the row goes on with what was taken. */
    private static void refusedOnesDoNothing() {
        TaskCores x = new TaskCores(1);
        Check.taskWith(x, 1, 0, false, 6, 1, 0, 5, 7, 1, 0, 5);
        Check.taskWith(x, 5, 0, false, 0, 2);
        Check.due("GET 33 by rank 5", x.part(2, 6, 33), -2);
        x.activate(1, 0);
        x.activate(2, 3);
        x.run(1);
        Check.due("GET 1 by rank 5, too late", x.part(2, 6, 1), -3);
        x.run(29);
        Check.due("switches", Check.switches(x), "0:0:1 3:0:2 6:0:1 14:0:0");
        Check.due("codes", Check.codes(x), "");
    }
}
