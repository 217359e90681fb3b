/** Promise 4: manner. */
public final class MannerTest {
    public static void main(String[] args) {
        fullAtFirst();
        notFull();
        theLastOneCounts();
        ofOneTaskAlone();
        thereIsNone();
        timeWentByAlready();
        theFirstThatFits();
        Check.end();
    }

    /** Task 1 has rank 1 and runs 6; task 2 has rank 9, runs 2 and comes at 3. */
    private static TaskCores lowAndHigh() {
        TaskCores x = new TaskCores(1);
        Check.task(x, 1, 0, "RUN 4, RUN 2");
        Check.task(x, 9, 0, "RUN 2");
        x.activate(1, 0);
        x.activate(2, 3);
        return x;
    }

    /** "is FULL at first (another one may come between its parts and microseconds)". */
    private static void fullAtFirst() {
        TaskCores untold = lowAndHigh();
        untold.run(20);
        Check.due("FULL at first", Check.switches(untold), "0:0:1 3:0:2 6:0:1 10:0:0");
        TaskCores told = lowAndHigh();
        Check.due("manner(1, true)", told.manner(1, true), 1);
        told.run(20);
        Check.due("FULL", Check.switches(told), "0:0:1 3:0:2 6:0:1 10:0:0");
    }

    private static void notFull() {
        TaskCores x = lowAndHigh();
        Check.due("manner(1, false)", x.manner(1, false), 1);
        x.run(20);
        Check.due("not FULL", Check.switches(x), "0:0:1 7:0:2 10:0:0");
    }

    private static void theLastOneCounts() {
        TaskCores full = lowAndHigh();
        full.manner(1, false);
        full.manner(1, true);
        full.run(20);
        Check.due("FULL again", Check.switches(full), "0:0:1 3:0:2 6:0:1 10:0:0");
        TaskCores notFull = lowAndHigh();
        notFull.manner(1, false);
        Check.due("as it is", notFull.manner(1, false), 1);
        notFull.run(20);
        Check.due("still not FULL", Check.switches(notFull), "0:0:1 7:0:2 10:0:0");
    }

    private static void ofOneTaskAlone() {
        TaskCores x = lowAndHigh();
        Check.due("manner(2, false)", x.manner(2, false), 1);
        x.run(20);
        Check.due("task 1 is FULL", Check.switches(x), "0:0:1 3:0:2 6:0:1 10:0:0");
    }

    /** "-1 there is none". */
    private static void thereIsNone() {
        TaskCores x = new TaskCores(1);
        Check.due("task 1 of none", x.manner(1, false), -1);
        x.task(1, 0, 1, false);
        int[] unknown = {0, -1, 2, 100, 101, Integer.MIN_VALUE, Integer.MAX_VALUE};
        for (int task : unknown) {
            Check.due("manner(" + task + ", false)", x.manner(task, false), -1);
        }
        Check.due("manner(1, false)", x.manner(1, false), 1);
    }

    /** "-3 time went by already": and then it stays as it was. */
    private static void timeWentByAlready() {
        TaskCores full = lowAndHigh();
        full.run(0);
        Check.due("after run(0)", full.manner(1, true), 1);
        full.run(1);
        Check.due("after run(1)", full.manner(1, false), -3);
        full.run(19);
        Check.due("it stays FULL", Check.switches(full), "0:0:1 3:0:2 6:0:1 10:0:0");
        TaskCores notFull = lowAndHigh();
        notFull.manner(1, false);
        notFull.run(1);
        Check.due("after run(1), back", notFull.manner(1, true), -3);
        notFull.run(19);
        Check.due("it stays as it is", Check.switches(notFull), "0:0:1 7:0:2 10:0:0");
    }

    /** "REFUSALS .. the first that fits". */
    private static void theFirstThatFits() {
        TaskCores x = lowAndHigh();
        x.run(1);
        Check.due("time went by, no task", x.manner(3, true), -1);
        Check.due("time went by", x.manner(2, true), -3);
    }
}
