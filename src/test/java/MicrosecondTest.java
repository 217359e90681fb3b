/** Terms: what happens in A MICROSECOND, in which order. */
public final class MicrosecondTest {
    public static void main(String[] args) {
        activationsBeforeSteps();
        activationsInTheOrderOfTelling();
        coreByCore();
        againFromCoreZero();
        untilNoCoreHasOne();
        roundAfterRound();
        manyStepsInOne();
        manyEndsInOne();
        chosenAnewForEachStep();
        chosenBehindTheSteps();
        aPartWithACodeIsPassedOver();
        Check.end();
    }

    /** "at first activations told for t happen": before the part ACTIVATE, done at 3, too. */
    private static void activationsBeforeSteps() {
        TaskCores x = new TaskCores(1);
        Check.task(x, 9, 0, "RUN 2, ACTIVATE 2, ACTIVATE 3, RUN 1");
        Check.task(x, 1, 0, "RUN 1");
        Check.task(x, 1, 0, "RUN 1");
        x.activate(1, 0);
        x.activate(3, 3);
        x.run(20);
        Check.due("codes", Check.codes(x), "1:3:3");
        Check.due("task 3 has the lesser TURN", Check.switches(x), "0:0:1 4:0:3 6:0:2 8:0:0");
    }

    /** "in the order of telling (code 1 with that task)". */
    private static void activationsInTheOrderOfTelling() {
        TaskCores x = new TaskCores(1);
        Check.task(x, 1, 0, "RUN 9");
        Check.task(x, 1, 0, "RUN 9");
        x.activate(2, 5);
        x.activate(1, 5);
        x.activate(1, 5);
        x.activate(2, 5);
        x.activate(1, 4);
        x.run(6);
        Check.due("codes", Check.codes(x), "1:1:5 1:1:5 1:2:5");
    }

    /** "core 0 as long as it has one, then core 1, and so on", whatever the tasks' numbers are. */
    private static void coreByCore() {
        TaskCores x = new TaskCores(8);
        for (int core = 7; core >= 0; core--) {
            int task = Check.task(x, 1, core, "UNLOCK 1, UNLOCK 2, RUN 1");
            x.activate(task, 0);
        }
        x.run(3);
        Check.due("codes", Check.codes(x), "6:8:1 6:8:1 6:7:1 6:7:1 6:6:1 6:6:1 6:5:1 6:5:1 "
            + "6:4:1 6:4:1 6:3:1 6:3:1 6:2:1 6:2:1 6:1:1 6:1:1");
    }

    /** "then again from core 0": core 1 wakes task 1, but core 2 has its STEPS before core 0 again. */
    private static void againFromCoreZero() {
        TaskCores x = new TaskCores(3);
        Check.extended(x, 1, 0, "WAIT 1, UNLOCK 1");
        Check.task(x, 1, 1, "RUN 2, SET 1:1, UNLOCK 2, RUN 1");
        Check.task(x, 1, 2, "RUN 2, UNLOCK 3, RUN 1");
        for (int task = 1; task <= 3; task++) {
            x.activate(task, 0);
        }
        x.run(9);
        Check.due("codes", Check.codes(x), "6:2:3 6:3:3 6:1:3");
        Check.due("task 1 ended in that microsecond", Check.switches(x),
            "0:0:1 0:1:2 0:2:3 1:0:0 4:1:0 4:2:0");
    }

    /** "until no core has one": core 7 wakes 6, 6 wakes 5, and so on, all in microsecond 3. */
    private static void untilNoCoreHasOne() {
        TaskCores x = new TaskCores(8);
        Check.extended(x, 1, 0, "WAIT 1, UNLOCK 1");
        for (int core = 1; core < 7; core++) {
            Check.extended(x, 1, core, "WAIT 1, SET " + core + ":1, UNLOCK 1");
        }
        Check.task(x, 1, 7, "RUN 2, SET 7:1, RUN 1");
        for (int task = 1; task <= 8; task++) {
            x.activate(task, 0);
        }
        x.run(9);
        Check.due("codes", Check.codes(x), "6:7:3 6:6:3 6:5:3 6:4:3 6:3:3 6:2:3 6:1:3");
        for (int task = 1; task <= 7; task++) {
            Check.due("used(" + task + ")", x.used(task), 1);
        }
    }

    /** Tasks 1 and 2 wake each other fifty times in one microsecond. */
    private static void roundAfterRound() {
        TaskCores x = new TaskCores(2);
        x.task(1, 0, 1, true);
        x.task(1, 1, 1, true);
        for (int i = 0; i < 50; i++) {
            x.part(1, 3, 1);
            x.part(1, 5, 1);
            x.part(1, 4, 2 * 65536 + 1);
            x.part(2, 3, 1);
            x.part(2, 5, 1);
            x.part(2, 4, 65536 + 1);
        }
        x.part(2, 9, 1);
        x.activate(1, 0);
        x.activate(2, 0);
        x.run(4);
        x.event(1, 1);
        x.run(4);
        Check.due("the last SET finds task 1 at its end", Check.codes(x), "5:2:4 6:2:4");
        Check.due("state(1)", x.state(1), 0);
        Check.due("state(2)", x.state(2), 0);
        Check.due("used(1)", x.used(1), 1);
        Check.due("used(2)", x.used(2), 1);
    }

    /** All of 480 parts in microsecond 1. */
    private static void manyStepsInOne() {
        TaskCores x = new TaskCores(1);
        x.task(1, 0, 1, false);
        for (int i = 0; i < 480; i++) {
            x.part(1, 9, 1);
        }
        x.activate(1, 0);
        x.run(3);
        Check.due("how many codes", x.code(-1, 0), 480);
        Check.due("time of the first", x.code(0, 2), 1);
        Check.due("time of the last", x.code(479, 2), 1);
        Check.due("used(1)", x.used(1), 1);
        Check.due("state(1)", x.state(1), 0);
    }

    /** Task 1 wakes 99 of a higher rank, and each of them ends in that microsecond. */
    private static void manyEndsInOne() {
        TaskCores x = new TaskCores(1);
        x.task(1, 0, 1, false);
        for (int task = 2; task <= 100; task++) {
            Check.extended(x, 2, 0, "WAIT 1");
            x.part(1, 4, task * 65536L + 1);
            x.activate(task, 0);
        }
        x.activate(1, 100);
        x.run(102);
        Check.due("used(1)", x.used(1), 1);
        Check.due("state(1)", x.state(1), 0);
        Check.due("state(2)", x.state(2), 0);
        Check.due("state(100)", x.state(100), 0);
        Check.due("events(100)", x.events(100), 1);
        Check.due("running(0, 100)", x.running(0, 100), 1);
        Check.due("running(0, 101)", x.running(0, 101), 0);
        Check.due("codes", Check.codes(x), "");
    }

    /** "A STEP: the core's task is chosen": task 2 comes between the parts of task 1. */
    private static void chosenAnewForEachStep() {
        TaskCores x = new TaskCores(1);
        Check.task(x, 1, 0, "UNLOCK 1, ACTIVATE 2, UNLOCK 2, RUN 1");
        Check.task(x, 5, 0, "UNLOCK 3");
        x.activate(1, 0);
        x.run(9);
        Check.due("codes", Check.codes(x), "6:1:1 6:2:2 6:1:2");
        Check.due("switches", Check.switches(x), "0:0:1 1:0:2 2:0:1 3:0:0");
    }

    /** "Then each core's task is chosen": what core 7 activates runs in that microsecond on core 0. */
    private static void chosenBehindTheSteps() {
        TaskCores x = new TaskCores(8);
        Check.task(x, 1, 7, "RUN 2, ACTIVATE 2, RUN 1, CHAIN 3");
        Check.task(x, 1, 0, "RUN 4");
        Check.task(x, 2, 0, "RUN 1");
        x.activate(1, 0);
        x.run(20);
        Check.due("switches", Check.switches(x), "0:7:1 3:0:2 4:0:3 4:7:0 6:0:2 10:0:0");
        Check.due("codes", Check.codes(x), "");
    }

    /** "A part with a code is passed over": one of each, and the RUN behind them is done. */
    private static void aPartWithACodeIsPassedOver() {
        TaskCores x = new TaskCores(2);
        Check.task(x, 1, 1, "ACTIVATE 1, WAIT 1, FREE 1, SET 1:1, UNLOCK 1, OFF 1, ACTIVATE 2, RUN 3");
        x.activate(1, 0);
        x.run(9);
        Check.due("codes", Check.codes(x), "1:1:1 2:1:1 4:1:1 5:1:1 6:1:1 7:1:1 8:1:1");
        Check.due("used(1)", x.used(1), 4);
    }
}
