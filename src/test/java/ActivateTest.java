/** Promise 5: activate; and ACTIVATING, by a time and by a part. */
public final class ActivateTest {
    public static void main(String[] args) {
        refusals();
        atMostFiveHundred();
        earlierToldLater();
        wantedUpToTheBound();
        extendedHasBoundOne();
        beforeTheStepsOfTheMicrosecond();
        byPart();
        eventsAreGone();
        Check.end();
    }

    private static void refusals() {
        TaskCores x = new TaskCores(1);
        Check.due("there is none", x.activate(1, 0), -1);
        x.task(1, 0, 1, false);
        Check.due("activate(1, 0)", x.activate(1, 0), 1);
        Check.due("nothing happens yet", x.state(1), 0);
        Check.due("activate(1, 50000)", x.activate(1, 50000), 1);
        Check.due("activate(1, 50001)", x.activate(1, 50001), -2);
        Check.due("activate(1, -1)", x.activate(1, -1), -2);
        Check.due("activate(1, MAX_VALUE)", x.activate(1, Long.MAX_VALUE), -2);
        Check.due("activate(1, MIN_VALUE)", x.activate(1, Long.MIN_VALUE), -2);
        Check.due("activate(1, 2 to the 32nd)", x.activate(1, 4294967296L), -2);
        Check.due("activate(0, 0)", x.activate(0, 0), -1);
        Check.due("activate(2, 0)", x.activate(2, 0), -1);
        Check.due("activate(2, -1)", x.activate(2, -1), -1);
        x.run(10);
        Check.due("activate(1, 9) at 10", x.activate(1, 9), -2);
        Check.due("activate(1, 10) at 10", x.activate(1, 10), 1);
        x.run(1);
        Check.due("state", x.state(1), 2);
        x.run(50000 - 11);
        Check.due("what was told for 50000 never happens", x.state(1), 0);
        Check.due("activate(1, 50000) at 50000", x.activate(1, 50000), 1);
        Check.due("codes", Check.codes(x), "");
        Check.due("switches", Check.switches(x), "0:0:1 1:0:0 10:0:1 11:0:0");
    }

    private static void atMostFiveHundred() {
        TaskCores x = new TaskCores(1);
        x.task(1, 0, 1, false);
        for (int i = 1; i <= 500; i++) {
            Check.due("telling " + i, x.activate(1, 1), 1);
        }
        Check.due("telling 501", x.activate(1, 1), -4);
        Check.due("telling 501 of no task", x.activate(2, 1), -1);
        Check.due("telling 501 of no time", x.activate(1, 50001), -2);
        x.run(5);
        Check.due("how many codes", x.code(-1, 0), 499);
        Check.due("telling 501 after they happened", x.activate(1, 9), -4);
    }

    private static void earlierToldLater() {
        TaskCores x = new TaskCores(1);
        Check.taskWith(x, 1, 0, false, 0, 1);
        Check.taskWith(x, 1, 0, false, 0, 1);
        x.activate(1, 7);
        x.activate(2, 3);
        x.activate(2, 7);
        x.run(20);
        Check.due("switches", Check.switches(x), "3:0:2 5:0:0 7:0:1 9:0:2 11:0:0");
    }

    /** Bound 3: itself and two that are WANTED; the two above are told as code 1. */
    private static void wantedUpToTheBound() {
        TaskCores x = new TaskCores(1);
        x.task(1, 0, 3, false);
        Check.addParts(x, 1, 0, 2);
        for (int i = 0; i < 5; i++) {
            x.activate(1, 4);
        }
        x.run(20);
        Check.due("codes", Check.codes(x), "1:1:4 1:1:4");
        Check.due("switches", Check.switches(x), "4:0:1 13:0:0");
        Check.due("three times START and 2", x.used(1), 9);
    }

    private static void extendedHasBoundOne() {
        TaskCores x = new TaskCores(1);
        Check.taskWith(x, 1, 0, true, 3, 1);
        x.activate(1, 0);
        x.activate(1, 1);
        x.activate(1, 3);
        x.run(5);
        Check.due("codes", Check.codes(x), "1:1:1 1:1:3");
        Check.due("it is WAITING", x.state(1), 3);
    }

    /** The end is a STEP of microsecond 3, behind the activation told for 3. */
    private static void beforeTheStepsOfTheMicrosecond() {
        TaskCores x = new TaskCores(1);
        Check.taskWith(x, 1, 0, false, 0, 2);
        x.activate(1, 0);
        x.activate(1, 3);
        x.activate(1, 4);
        x.run(20);
        Check.due("codes", Check.codes(x), "1:1:3");
        Check.due("switches", Check.switches(x), "0:0:1 3:0:0 4:0:1 7:0:0");
    }

    /** Code 1 is told with the one that can't be activated, code 8 with the one that activates. */
    private static void byPart() {
        TaskCores full = activatingTasks();
        full.run(20);
        Check.due("codes, FULL", Check.codes(full), "1:1:7 8:1:7");
        Check.due("switches, FULL", Check.switches(full), "0:0:1 1:0:2 7:0:1 7:1:3 8:0:0 10:1:0");
        TaskCores notFull = activatingTasks();
        notFull.manner(1, false);
        notFull.run(20);
        Check.due("codes, not FULL", Check.codes(notFull), "1:2:1 1:1:1 8:1:1");
        Check.due("switches, not FULL", Check.switches(notFull), "0:0:1 1:1:3 2:0:2 4:1:0 5:0:0");
    }

    private static TaskCores activatingTasks() {
        TaskCores x = new TaskCores(2);
        Check.taskWith(x, 5, 0, false, 1, 2, 1, 2, 1, 1, 1, 4, 1, 3, 0, 1);
        Check.taskWith(x, 9, 0, false, 0, 2);
        Check.taskWith(x, 9, 1, false, 0, 2);
        x.activate(1, 0);
        return x;
    }

    private static void eventsAreGone() {
        TaskCores x = new TaskCores(1);
        Check.taskWith(x, 1, 0, true, 3, 2);
        x.activate(1, 0);
        x.run(3);
        x.event(1, 3);
        x.run(3);
        Check.due("EVENTS stay behind the end", x.events(1), 3);
        Check.due("it has ended", x.state(1), 0);
        x.activate(1, 6);
        x.run(1);
        Check.due("EVENTS are gone", x.events(1), 0);
        x.run(3);
        Check.due("it is WAITING again", x.state(1), 3);
    }
}
