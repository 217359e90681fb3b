/** Terms: ACTIVATING, START, those that are WANTED, the BOUND and code 1; the part ACTIVATE. */
public final class ActivatingTest {
    public static void main(String[] args) {
        startIsAMicrosecond();
        withoutEvents();
        boundOfOne();
        boundOfThree();
        boundOfHundred();
        extendedHasTheBoundOne();
        oneThatIsReadyRunningOrWaiting();
        wantedHaveTheirTurn();
        byAPart();
        byAPartOfItself();
        ofATaskThatThereIsNot();
        Check.end();
    }

    /** "before its START (a microsecond of running), behind which its first part comes". */
    private static void startIsAMicrosecond() {
        TaskCores x = new TaskCores(1);
        Check.task(x, 1, 0, "UNLOCK 1, RUN 1, UNLOCK 2");
        Check.task(x, 1, 0, "");
        x.activate(1, 3);
        x.activate(2, 9);
        x.run(20);
        Check.due("codes", Check.codes(x), "6:1:4 6:1:5");
        Check.due("switches", Check.switches(x), "3:0:1 5:0:0 9:0:2 10:0:0");
        Check.due("one without parts has its START", x.used(2), 1);
    }

    /** "it is READY, without EVENTS": they stay behind the end, and are gone with the activation. */
    private static void withoutEvents() {
        TaskCores x = new TaskCores(1);
        Check.extended(x, 1, 0, "WAIT 2");
        x.activate(1, 0);
        x.run(3);
        x.event(1, 3);
        x.run(3);
        Check.due("it has ended", x.state(1), 0);
        Check.due("EVENTS stay behind the end", x.events(1), 3);
        x.activate(1, 6);
        x.run(1);
        Check.due("EVENTS are gone", x.events(1), 0);
        x.run(3);
        Check.due("it is WAITING again", x.state(1), 3);
    }

    /** Bound 1: the second of two is too many. */
    private static void boundOfOne() {
        TaskCores x = new TaskCores(1);
        Check.task(x, 1, 0, "RUN 2");
        x.activate(1, 4);
        x.activate(1, 4);
        x.activate(1, 5);
        x.run(20);
        Check.due("codes", Check.codes(x), "1:1:4 1:1:5");
        Check.due("used(1)", x.used(1), 3);
    }

    /** "itself, and those that are WANTED, are fewer than BOUND": three are taken, two are not. */
    private static void boundOfThree() {
        TaskCores x = new TaskCores(1);
        Check.task(x, 1, 0, 3, "RUN 2");
        for (int i = 0; i < 5; i++) {
            x.activate(1, 4);
        }
        x.activate(1, 8);
        x.activate(1, 9);
        x.run(30);
        Check.due("codes", Check.codes(x), "1:1:4 1:1:4 1:1:9");
        Check.due("switches", Check.switches(x), "4:0:1 16:0:0");
        Check.due("four times START and 2", x.used(1), 12);
    }

    /** Task 1 runs from 0 to 3 and from 4 to 7: at 5 there is room for one again. */
    private static void boundOfHundred() {
        TaskCores x = new TaskCores(1);
        Check.task(x, 1, 0, 100, "RUN 3");
        for (int i = 0; i < 100; i++) {
            x.activate(1, 0);
        }
        x.run(1);
        Check.due("100 are not too many", x.code(-1, 0), 0);
        x.activate(1, 2);
        x.activate(1, 5);
        x.activate(1, 6);
        x.run(10);
        Check.due("codes", Check.codes(x), "1:1:2 1:1:6");
        x.run(1000);
        Check.due("101 times START and 3", x.used(1), 404);
        Check.due("codes at the end", Check.codes(x), "1:1:2 1:1:6");
    }

    /** "(EXTENDED ones have the bound 1)". */
    private static void extendedHasTheBoundOne() {
        TaskCores x = new TaskCores(1);
        Check.extended(x, 1, 0, "RUN 4");
        x.activate(1, 0);
        x.activate(1, 0);
        x.activate(1, 4);
        x.activate(1, 6);
        x.run(20);
        Check.due("codes", Check.codes(x), "1:1:0 1:1:4");
        Check.due("used(1)", x.used(1), 10);
    }

    /** "Another one": in each of the three other states it is not activated anew. */
    private static void oneThatIsReadyRunningOrWaiting() {
        TaskCores x = new TaskCores(1);
        Check.extended(x, 1, 0, "WAIT 1");
        Check.task(x, 5, 0, "RUN 9");
        Check.task(x, 3, 0, "RUN 1");
        x.activate(1, 0);
        x.activate(2, 2);
        x.activate(3, 3);
        for (int task = 1; task <= 3; task++) {
            x.activate(task, 5);
        }
        x.run(6);
        Check.due("WAITING", x.state(1), 3);
        Check.due("RUNNING", x.state(2), 2);
        Check.due("READY", x.state(3), 1);
        Check.due("codes", Check.codes(x), "1:1:5 1:2:5 1:3:5");
        x.run(20);
        Check.due("used(2)", x.used(2), 10);
        Check.due("used(3)", x.used(3), 2);
    }

    /** One that was WANTED becomes READY with the end, and has its TURN then: behind task 2. */
    private static void wantedHaveTheirTurn() {
        TaskCores x = new TaskCores(1);
        Check.task(x, 1, 0, 2, "RUN 2");
        Check.task(x, 1, 0, "RUN 2");
        x.activate(1, 0);
        x.activate(1, 0);
        x.activate(2, 1);
        x.run(20);
        Check.due("switches", Check.switches(x), "0:0:1 3:0:2 6:0:1 9:0:0");
    }

    /** "code 1 (told with that task, whoever activates it)". */
    private static void byAPart() {
        TaskCores x = new TaskCores(2);
        Check.task(x, 5, 0, "ACTIVATE 2, ACTIVATE 2, ACTIVATE 2, RUN 1");
        Check.task(x, 9, 1, 2, "RUN 2");
        x.activate(1, 0);
        x.run(20);
        Check.due("codes", Check.codes(x), "1:2:1");
        Check.due("switches", Check.switches(x), "0:0:1 1:1:2 2:0:0 7:1:0");
    }

    private static void byAPartOfItself() {
        TaskCores x = new TaskCores(1);
        Check.task(x, 5, 0, "ACTIVATE 1, RUN 1");
        Check.task(x, 5, 0, 2, "ACTIVATE 2, ACTIVATE 2, RUN 1");
        x.activate(1, 0);
        x.activate(2, 4);
        x.run(9);
        Check.due("codes", Check.codes(x), "1:1:1 1:2:5 1:2:7");
        Check.due("used(1)", x.used(1), 2);
        Check.due("used(2)", x.used(2), 5);
    }

    /** "ACTIVATE .. of a task that there is not: code 8", with the one that does it; it goes on. */
    private static void ofATaskThatThereIsNot() {
        TaskCores x = new TaskCores(1);
        Check.task(x, 5, 0, "ACTIVATE 3, ACTIVATE 2, ACTIVATE 100, RUN 1");
        Check.task(x, 5, 0, "RUN 1");
        x.activate(1, 0);
        x.run(9);
        Check.due("codes", Check.codes(x), "8:1:1 8:1:1");
        Check.due("switches", Check.switches(x), "0:0:1 2:0:2 4:0:0");
    }
}
