/** Promise 10: used. */
public final class UsedTest {
    public static void main(String[] args) {
        thereIsNone();
        startRunAndSpinning();
        notWhatAnInterruptTook();
        ofAllActivations();
        theMost();
        Check.end();
    }

    /** "-1 there is none". */
    private static void thereIsNone() {
        TaskCores x = new TaskCores(1);
        Check.due("used(1) of none", x.used(1), -1);
        x.task(1, 0, 1, false);
        int[] unknown = {0, -1, 2, 100, 101, Integer.MIN_VALUE, Integer.MAX_VALUE};
        for (int task : unknown) {
            Check.due("used(" + task + ")", x.used(task), -1);
        }
        Check.due("used(1)", x.used(1), 0);
    }

    /** "the RUNNING task has used a microsecond: of its START, its RUN, or spinning". */
    private static void startRunAndSpinning() {
        TaskCores x = new TaskCores(2);
        Check.task(x, 1, 0, "LOCK 1, RUN 4, UNLOCK 1");
        Check.task(x, 1, 1, "RUN 1, LOCK 1, RUN 1, UNLOCK 1");
        x.activate(1, 0);
        x.activate(2, 0);
        Check.due("used(1) at 0", x.used(1), 0);
        long[] first = {1, 2, 3, 4, 5, 5, 5};
        long[] second = {1, 2, 3, 4, 5, 6, 6};
        for (int t = 0; t < 7; t++) {
            x.run(1);
            Check.due("used(1) at " + (t + 1), x.used(1), first[t]);
            Check.due("used(2) at " + (t + 1), x.used(2), second[t]);
        }
    }

    private static void notWhatAnInterruptTook() {
        TaskCores x = new TaskCores(1);
        Check.task(x, 1, 0, "RUN 3");
        x.activate(1, 0);
        x.interrupt(1, 2, 4);
        x.run(4);
        Check.due("under the interrupt", x.used(1), 2);
        x.run(6);
        Check.due("behind it", x.used(1), 4);
    }

    private static void ofAllActivations() {
        TaskCores x = new TaskCores(1);
        Check.task(x, 1, 0, 2, "RUN 2");
        x.activate(1, 0);
        x.activate(1, 0);
        x.activate(1, 20);
        x.run(10);
        Check.due("two of them", x.used(1), 6);
        x.run(20);
        Check.due("three of them", x.used(1), 9);
    }

    private static void theMost() {
        TaskCores x = new TaskCores(2);
        Check.task(x, 1, 0, "RUN 50000");
        Check.task(x, 1, 1, "CHAIN 2");
        x.activate(1, 0);
        x.activate(2, 0);
        x.run(50000);
        Check.due("one RUN", x.used(1), 50000);
        Check.due("START by START", x.used(2), 50000);
    }
}
