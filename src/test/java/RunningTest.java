/** Promises 9, 10 and 11: running, used and state. */
public final class RunningTest {
    public static void main(String[] args) {
        refusals();
        whoRanWhen();
        usedIsOfAllActivations();
        states();
        Check.end();
    }

    private static void refusals() {
        TaskCores x = new TaskCores(2);
        x.task(1, 0, 1, false);
        Check.due("running(0, 0) at 0", x.running(0, 0), -2);
        x.run(5);
        Check.due("running(0, 4)", x.running(0, 4), 0);
        Check.due("running(0, 5)", x.running(0, 5), -2);
        Check.due("running(0, -1)", x.running(0, -1), -2);
        Check.due("running(0, MAX_VALUE)", x.running(0, Long.MAX_VALUE), -2);
        Check.due("running(0, MIN_VALUE)", x.running(0, Long.MIN_VALUE), -2);
        Check.due("running(0, 2 to the 32nd)", x.running(0, 4294967296L), -2);
        Check.due("running(2, 0)", x.running(2, 0), -1);
        Check.due("running(-1, 0)", x.running(-1, 0), -1);
        Check.due("running(2, 5)", x.running(2, 5), -1);
        int[] unknown = {0, 2, -1, 100, 101, Integer.MAX_VALUE, Integer.MIN_VALUE};
        for (int task : unknown) {
            Check.due("used(" + task + ")", x.used(task), -1);
            Check.due("state(" + task + ")", x.state(task), -1);
            Check.due("events(" + task + ")", x.events(task), -1);
        }
        Check.due("used(1)", x.used(1), 0);
        Check.due("state(1)", x.state(1), 0);
    }

    private static void whoRanWhen() {
        TaskCores x = new TaskCores(2);
        Check.taskWith(x, 1, 0, false, 0, 4);
        Check.taskWith(x, 1, 1, false, 0, 1);
        x.activate(1, 2);
        x.activate(2, 3);
        x.interrupt(12, 4, 2);
        x.run(12);
        int[] first = {0, 0, 1, 1, 1012, 1012, 1, 1, 1, 0, 0, 0};
        int[] second = {0, 0, 0, 2, 2, 0, 0, 0, 0, 0, 0, 0};
        for (int t = 0; t < 12; t++) {
            Check.due("running(0, " + t + ")", x.running(0, t), first[t]);
            Check.due("running(1, " + t + ")", x.running(1, t), second[t]);
        }
    }

    /** START counts, RUN counts, and so does spinning; an interrupt does not. */
    private static void usedIsOfAllActivations() {
        TaskCores x = new TaskCores(2);
        Check.taskWith(x, 1, 0, false, 8, 1, 0, 6, 9, 1);
        Check.taskWith(x, 1, 1, false, 0, 1, 8, 1, 9, 1);
        x.activate(1, 0);
        x.activate(2, 0);
        x.interrupt(1, 3, 2);
        x.run(4);
        Check.due("used(1) at 4", x.used(1), 3);
        Check.due("used(2) at 4", x.used(2), 4);
        x.run(16);
        Check.due("used(1)", x.used(1), 7);
        Check.due("used(2)", x.used(2), 9);
        x.activate(2, 20);
        x.run(10);
        Check.due("used(2) after two activations", x.used(2), 11);
    }

    private static void states() {
        TaskCores x = new TaskCores(1);
        Check.taskWith(x, 5, 0, true, 3, 1, 0, 1);
        Check.taskWith(x, 2, 0, false, 0, 9);
        x.activate(1, 1);
        x.activate(2, 0);
        x.run(1);
        Check.due("not activated yet", x.state(1), 0);
        Check.due("RUNNING", x.state(2), 2);
        x.run(1);
        Check.due("RUNNING, it came between", x.state(1), 2);
        Check.due("READY", x.state(2), 1);
        x.run(1);
        Check.due("WAITING", x.state(1), 3);
        Check.due("RUNNING again", x.state(2), 2);
        x.event(1, 1);
        Check.due("READY at once", x.state(1), 1);
        x.run(1);
        Check.due("RUNNING behind WAIT", x.state(1), 2);
        Check.due("READY again", x.state(2), 1);
        x.run(20);
        Check.due("ended", x.state(1), 0);
        Check.due("ended too", x.state(2), 0);
    }
}
