/** Promise 11: state. */
public final class StateTest {
    public static void main(String[] args) {
        thereIsNone();
        allFour();
        oneThatSpins();
        Check.end();
    }

    /** "-1 there is none". */
    private static void thereIsNone() {
        TaskCores x = new TaskCores(1);
        Check.due("state(1) of none", x.state(1), -1);
        x.task(1, 0, 1, false);
        int[] unknown = {0, -1, 2, 100, 101, Integer.MIN_VALUE, Integer.MAX_VALUE};
        for (int task : unknown) {
            Check.due("state(" + task + ")", x.state(task), -1);
        }
        Check.due("state(1)", x.state(1), 0);
    }

    /** "0 SUSPENDED (at first), 1 READY, 2 RUNNING, 3 WAITING". */
    private static void allFour() {
        TaskCores x = new TaskCores(1);
        Check.extended(x, 5, 0, "WAIT 1, RUN 2");
        Check.task(x, 2, 0, "RUN 9");
        x.activate(1, 1);
        x.activate(2, 0);
        x.run(1);
        Check.due("not activated yet", x.state(1), 0);
        Check.due("RUNNING", x.state(2), 2);
        x.run(1);
        Check.due("RUNNING, it came between", x.state(1), 2);
        Check.due("READY", x.state(2), 1);
        x.run(1);
        Check.due("WAITING", x.state(1), 3);
        Check.due("RUNNING again", x.state(2), 2);
        x.event(1, 1);
        Check.due("READY at once", x.state(1), 1);
        Check.due("nothing is chosen yet", x.state(2), 2);
        x.run(1);
        Check.due("RUNNING behind WAIT", x.state(1), 2);
        Check.due("READY again", x.state(2), 1);
        x.run(20);
        Check.due("ended", x.state(1), 0);
        Check.due("ended too", x.state(2), 0);
    }

    private static void oneThatSpins() {
        TaskCores x = new TaskCores(2);
        Check.task(x, 1, 0, "LOCK 1, RUN 9");
        Check.task(x, 1, 1, "LOCK 1");
        Check.task(x, 2, 1, "RUN 2");
        x.activate(1, 0);
        x.activate(2, 0);
        x.activate(3, 3);
        x.run(3);
        Check.due("it is RUNNING", x.state(2), 2);
        x.run(1);
        Check.due("or READY, if another one came between", x.state(2), 1);
    }
}
