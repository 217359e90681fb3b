/** Promise 9: running. */
public final class RunningTest {
    public static void main(String[] args) {
        whoOfEachMicrosecond();
        theFirstAndTheLastOne();
        thereIsNoCore();
        hasNotGoneBy();
        theFirstThatFits();
        Check.end();
    }

    /** "1000 and the level of an interrupt, otherwise its RUNNING task, or 0". */
    private static void whoOfEachMicrosecond() {
        TaskCores x = new TaskCores(2);
        Check.task(x, 1, 0, "RUN 4");
        Check.task(x, 1, 1, "RUN 1");
        x.activate(1, 2);
        x.activate(2, 3);
        x.interrupt(12, 4, 2);
        x.run(12);
        int[] first = {0, 0, 1, 1, 1012, 1012, 1, 1, 1, 0, 0, 0};
        int[] second = {0, 0, 0, 2, 2, 0, 0, 0, 0, 0, 0, 0};
        for (int t = 0; t < 12; t++) {
            Check.due("running(0, " + t + ")", x.running(0, t), first[t]);
            Check.due("running(1, " + t + ")", x.running(1, t), second[t]);
        }
    }

    private static void theFirstAndTheLastOne() {
        TaskCores x = new TaskCores(8);
        Check.task(x, 1, 7, "");
        Check.task(x, 1, 0, "");
        x.activate(1, 0);
        x.activate(2, 49999);
        x.interrupt(1, 0, 1);
        x.interrupt(15, 49998, 1);
        x.run(50000);
        Check.due("running(7, 0)", x.running(7, 0), 1);
        Check.due("running(7, 1)", x.running(7, 1), 0);
        Check.due("running(7, 49999)", x.running(7, 49999), 0);
        Check.due("running(0, 0)", x.running(0, 0), 1001);
        Check.due("running(0, 1)", x.running(0, 1), 0);
        Check.due("running(0, 49997)", x.running(0, 49997), 0);
        Check.due("running(0, 49998)", x.running(0, 49998), 1015);
        Check.due("running(0, 49999)", x.running(0, 49999), 2);
        Check.due("running(0, 50000)", x.running(0, 50000), -2);
    }

    /** "-1 there is no core". */
    private static void thereIsNoCore() {
        TaskCores two = new TaskCores(2);
        two.run(5);
        int[] unknown = {-1, 2, 3, 8, Integer.MIN_VALUE, Integer.MAX_VALUE};
        for (int core : unknown) {
            Check.due("2 cores: running(" + core + ", 0)", two.running(core, 0), -1);
        }
        Check.due("2 cores: running(0, 0)", two.running(0, 0), 0);
        Check.due("2 cores: running(1, 0)", two.running(1, 0), 0);
        TaskCores eight = new TaskCores(8);
        eight.run(5);
        Check.due("8 cores: running(7, 0)", eight.running(7, 0), 0);
        Check.due("8 cores: running(8, 0)", eight.running(8, 0), -1);
    }

    /** "-2 that has not gone by". */
    private static void hasNotGoneBy() {
        TaskCores x = new TaskCores(1);
        Check.task(x, 1, 0, "RUN 20");
        x.activate(1, 0);
        Check.due("running(0, 0) at 0", x.running(0, 0), -2);
        Check.due("running(0, -1) at 0", x.running(0, -1), -2);
        x.run(1);
        Check.due("running(0, 0) at 1", x.running(0, 0), 1);
        Check.due("running(0, 1) at 1", x.running(0, 1), -2);
        x.run(4);
        Check.due("running(0, 4) at 5", x.running(0, 4), 1);
        long[] others = {5, 6, -1, 50000, 4294967296L, Long.MIN_VALUE, Long.MAX_VALUE};
        for (long t : others) {
            Check.due("running(0, " + t + ") at 5", x.running(0, t), -2);
        }
    }

    /** "REFUSALS .. the first that fits". */
    private static void theFirstThatFits() {
        TaskCores x = new TaskCores(1);
        Check.due("no core, nothing gone by", x.running(1, 0), -1);
        x.run(3);
        Check.due("no core, not gone by", x.running(-1, 3), -1);
        Check.due("no core, below 0", x.running(1, -1), -1);
    }
}
