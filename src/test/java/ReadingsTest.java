/**
 * Where the document's words leave more than one reading: the one that was chosen. The other
 * hand-made tests stay clear of these cases; PlainKernel reads them in the same way.
 */
public final class ReadingsTest {
    public static void main(String[] args) {
        theEndIsAStepOfTheNextMicrosecond();
        toItselfWithCodeThree();
        codesAboveThousandAreCounted();
        waitWithResourceThoughTheEventIsThere();
        waitWithOff();
        anotherOnePutsThemOn();
        noPlaceInTheQueueUnderAnInterrupt();
        chosenForAStepThoughNoPartIsDone();
        notChosenForStepsUnderAnInterrupt();
        Check.end();
    }

    /** The activation told for 3 comes before the end, which is a STEP of microsecond 3. */
    private static void theEndIsAStepOfTheNextMicrosecond() {
        TaskCores x = new TaskCores(1);
        Check.task(x, 1, 0, "RUN 2");
        x.activate(1, 0);
        x.activate(1, 3);
        x.activate(1, 4);
        x.run(3);
        Check.due("it is RUNNING yet", x.state(1), 2);
        x.run(17);
        Check.due("codes", Check.codes(x), "1:1:3");
        Check.due("switches", Check.switches(x), "0:0:1 3:0:0 4:0:1 7:0:0");
    }

    /** CHAIN to the task itself is its end, too: what it held is told. */
    private static void toItselfWithCodeThree() {
        TaskCores x = new TaskCores(1);
        Check.task(x, 3, 0, "LOCK 1, RUN 2, CHAIN 1");
        x.activate(1, 0);
        x.run(4);
        Check.due("without the lock", x.spin(0, 1), 0);
        x.run(6);
        Check.due("codes", Check.codes(x), "3:1:3 3:1:6 3:1:9");
        Check.due("used", x.used(1), 10);
    }

    /** "how many there were": not how many are kept. */
    private static void codesAboveThousandAreCounted() {
        TaskCores x = new TaskCores(1);
        Check.task(x, 1, 0, "UNLOCK 1, CHAIN 1");
        x.activate(1, 0);
        x.run(1001);
        Check.due("1000", x.code(-1, 0), 1000);
        x.run(1);
        Check.due("1001", x.code(-1, 0), 1001);
        x.run(48998);
        Check.due("one in each microsecond but the first", x.code(-1, 0), 49999);
    }

    private static void waitWithResourceThoughTheEventIsThere() {
        TaskCores x = new TaskCores(1);
        Check.extended(x, 5, 0, "SET 1:1, GET 1, WAIT 1, FREE 1, LOCK 1, WAIT 1, UNLOCK 1, WAIT 1, RUN 1");
        x.activate(1, 0);
        x.run(9);
        Check.due("codes", Check.codes(x), "4:1:1 4:1:1");
    }

    /** OFF does not keep from WAIT; they stay OFF, and the budget is told with the one that waits. */
    private static void waitWithOff() {
        TaskCores x = new TaskCores(1);
        Check.extended(x, 1, 0, "OFF 6, WAIT 1, ON, RUN 1");
        Check.task(x, 1, 0, "RUN 4");
        x.activate(1, 0);
        x.activate(2, 2);
        x.interrupt(6, 3, 1);
        x.run(10);
        Check.due("codes", Check.codes(x), "9:1:7");
        x.event(1, 1);
        x.run(10);
        Check.due("switches", Check.switches(x), "0:0:1 1:0:0 2:0:2 7:0:0 10:0:1006 11:0:1 12:0:0");
    }

    /** Task 2 puts ON what task 1 put OFF: task 1 holds nothing at its end, and no budget is over. */
    private static void anotherOnePutsThemOn() {
        TaskCores x = new TaskCores(1);
        Check.task(x, 1, 0, "OFF 4, RUN 9");
        Check.task(x, 5, 0, "OFF 1, ON, RUN 1");
        x.activate(1, 0);
        x.activate(2, 2);
        x.interrupt(5, 2, 2);
        x.run(30);
        Check.due("codes", Check.codes(x), "7:2:3");
        Check.due("switches", Check.switches(x), "0:0:1 2:0:2 3:0:1005 5:0:2 6:0:1 14:0:0");
    }

    /** Core 0 has no STEP from 2 to 5: core 2 comes to the QUEUE at 4, before core 0 at 6. */
    private static void noPlaceInTheQueueUnderAnInterrupt() {
        TaskCores x = new TaskCores(3);
        Check.task(x, 1, 0, "RUN 1, LOCK 1, RUN 1, UNLOCK 1");
        Check.task(x, 1, 1, "LOCK 1, RUN 9, UNLOCK 1");
        Check.task(x, 1, 2, "RUN 3, LOCK 1, RUN 1, UNLOCK 1");
        for (int task = 1; task <= 3; task++) {
            x.activate(task, 0);
        }
        x.interrupt(1, 2, 4);
        x.run(5);
        Check.due("spin(0, 1) at 5", x.spin(0, 1), 0);
        Check.due("spin(2, 1) at 5", x.spin(2, 1), -3);
        x.run(2);
        Check.due("spin(0, 1) at 7", x.spin(0, 1), -1);
        x.run(4);
        Check.due("spin(2, 1) at 11", x.spin(2, 1), 3);
        Check.due("spin(0, 1) at 11", x.spin(0, 1), -1);
    }

    /** Task 1 is not FULL, and task 2 activates task 3, which is higher, behind core 0's STEPS at 1. */
    private static TaskCores twoOfCoreZeroAtOne() {
        TaskCores x = new TaskCores(2);
        Check.task(x, 1, 0, "RUN 3");
        Check.task(x, 1, 1, "ACTIVATE 3, RUN 1");
        Check.task(x, 9, 0, "RUN 1");
        x.manner(1, false);
        x.activate(2, 0);
        x.activate(1, 1);
        return x;
    }

    /** A STEP chooses, even if no part can be done then: task 1 is RUNNING before task 3 is READY. */
    private static void chosenForAStepThoughNoPartIsDone() {
        TaskCores x = twoOfCoreZeroAtOne();
        x.run(20);
        Check.due("switches", Check.switches(x), "0:1:2 1:0:1 2:1:0 5:0:3 7:0:0");
    }

    /** Core 0 has no STEP, and nobody is chosen before both are READY. */
    private static void notChosenForStepsUnderAnInterrupt() {
        TaskCores x = twoOfCoreZeroAtOne();
        x.interrupt(1, 1, 2);
        x.run(2);
        Check.due("state(1)", x.state(1), 1);
        Check.due("state(3)", x.state(3), 2);
        x.run(18);
        Check.due("switches", Check.switches(x), "0:1:2 1:0:1001 2:1:0 3:0:3 5:0:1 9:0:0");
    }
}
