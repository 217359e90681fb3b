/** Promise 5: activate. */
public final class ActivateTest {
    public static void main(String[] args) {
        atThatTime();
        thereIsNone();
        timeHasGoneBy();
        aboveFiftyThousand();
        fiveHundredWereTold();
        theFirstThatFits();
        refusedDoesNotHappen();
        inTheOrderOfTelling();
        Check.end();
    }

    /** "A task will be activated at a time": not before, and for now in the next microsecond. */
    private static void atThatTime() {
        TaskCores x = new TaskCores(1);
        Check.task(x, 1, 0, "RUN 1");
        Check.due("activate(1, 0)", x.activate(1, 0), 1);
        Check.due("activate(1, 5)", x.activate(1, 5), 1);
        Check.due("nothing happens at once", x.state(1), 0);
        x.run(0);
        Check.due("nor in run(0)", x.state(1), 0);
        x.run(1);
        Check.due("at 1", x.state(1), 2);
        x.run(4);
        Check.due("at 5", x.state(1), 0);
        x.run(1);
        Check.due("at 6", x.state(1), 2);
        x.run(9);
        Check.due("switches", Check.switches(x), "0:0:1 2:0:0 5:0:1 7:0:0");
    }

    /** "-1 there is none". */
    private static void thereIsNone() {
        TaskCores x = new TaskCores(1);
        Check.due("task 1 of none", x.activate(1, 0), -1);
        x.task(1, 0, 1, false);
        int[] unknown = {0, -1, 2, 100, 101, Integer.MIN_VALUE, Integer.MAX_VALUE};
        for (int task : unknown) {
            Check.due("activate(" + task + ", 0)", x.activate(task, 0), -1);
        }
        Check.due("activate(1, 0)", x.activate(1, 0), 1);
    }

    /** "-2 the time has gone by": now has not. */
    private static void timeHasGoneBy() {
        TaskCores x = new TaskCores(1);
        Check.task(x, 1, 0, "");
        Check.due("activate(1, -1) at 0", x.activate(1, -1), -2);
        Check.due("activate(1, MIN_VALUE) at 0", x.activate(1, Long.MIN_VALUE), -2);
        Check.due("activate(1, 0) at 0", x.activate(1, 0), 1);
        x.run(10);
        Check.due("activate(1, 0) at 10", x.activate(1, 0), -2);
        Check.due("activate(1, 9) at 10", x.activate(1, 9), -2);
        Check.due("activate(1, 10) at 10", x.activate(1, 10), 1);
        x.run(1);
        Check.due("activate(1, 10) at 11", x.activate(1, 10), -2);
        x.run(10);
        Check.due("switches", Check.switches(x), "0:0:1 1:0:0 10:0:1 11:0:0");
        Check.due("codes", Check.codes(x), "");
    }

    /** "-2 .. is above 50000": what is told for 49999 happens, what is told for 50000 never does. */
    private static void aboveFiftyThousand() {
        TaskCores x = new TaskCores(1);
        Check.task(x, 1, 0, "");
        Check.task(x, 1, 0, "");
        long[] above = {50001, 50002, 4294967296L, 4294967297L, Long.MAX_VALUE};
        for (long t : above) {
            Check.due("activate(1, " + t + ")", x.activate(1, t), -2);
        }
        Check.due("activate(1, 50000)", x.activate(1, 50000), 1);
        Check.due("activate(2, 49999)", x.activate(2, 49999), 1);
        x.run(50000);
        Check.due("state(1) at 50000", x.state(1), 0);
        Check.due("activate(1, 49999) at 50000", x.activate(1, 49999), -2);
        Check.due("activate(1, 50000) at 50000", x.activate(1, 50000), 1);
        Check.due("activate(1, 50001) at 50000", x.activate(1, 50001), -2);
        x.run(0);
        Check.due("state(1) at the end", x.state(1), 0);
        Check.due("switches", Check.switches(x), "49999:0:2");
    }

    /** "-4 500 were told": those that happened count, too. */
    private static void fiveHundredWereTold() {
        TaskCores x = new TaskCores(1);
        x.task(1, 0, 1, false);
        for (int i = 1; i <= 499; i++) {
            Check.due("telling " + i, x.activate(1, 2), 1);
        }
        x.run(5);
        Check.due("one has run, the others were too many", x.code(-1, 0), 498);
        Check.due("telling 500", x.activate(1, 9), 1);
        Check.due("telling 501", x.activate(1, 7), -4);
        Check.due("telling 501 again", x.activate(1, 50000), -4);
        Check.due("run(10)", x.run(10), 2);
        Check.due("what was refused", x.running(0, 7), 0);
        Check.due("the 500th", x.running(0, 9), 1);
    }

    /** "REFUSALS .. the first that fits". */
    private static void theFirstThatFits() {
        TaskCores x = new TaskCores(1);
        x.task(1, 0, 1, false);
        Check.due("no task, no time", x.activate(2, -1), -1);
        for (int i = 1; i <= 500; i++) {
            x.activate(1, 1);
        }
        Check.due("full: no task", x.activate(2, 1), -1);
        Check.due("full: no task, no time", x.activate(2, 50001), -1);
        Check.due("full: below", x.activate(1, -1), -2);
        Check.due("full: above", x.activate(1, 50001), -2);
        Check.due("full", x.activate(1, 1), -4);
    }

    /** What was refused is not one of the 500, and activates nobody. */
    private static void refusedDoesNotHappen() {
        TaskCores x = new TaskCores(1);
        Check.task(x, 1, 0, "RUN 1");
        x.activate(2, 0);
        x.activate(1, -1);
        x.activate(1, 50001);
        x.activate(1, 4294967296L);
        x.run(5);
        Check.due("switches", Check.switches(x), "");
        for (int i = 1; i <= 500; i++) {
            Check.due("room for telling " + i, x.activate(1, 50000), 1);
        }
    }

    /** "activations told for t happen, in the order of telling", whatever was told between. */
    private static void inTheOrderOfTelling() {
        TaskCores x = new TaskCores(1);
        for (int i = 0; i < 3; i++) {
            Check.task(x, 1, 0, "RUN 1");
        }
        x.activate(1, 9);
        x.activate(3, 3);
        x.activate(2, 3);
        x.activate(3, 9);
        x.activate(2, 9);
        x.run(20);
        Check.due("switches", Check.switches(x), "3:0:3 5:0:2 7:0:0 9:0:1 11:0:3 13:0:2 15:0:0");
    }
}
