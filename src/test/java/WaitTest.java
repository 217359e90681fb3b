/** Terms: the parts WAIT, SET and CLEAR. */
public final class WaitTest {
    public static void main(String[] args) {
        waitOfOneNotExtended();
        waitWithAResource();
        waitWithALock();
        waitWithNothingAnyMore();
        waitGoesOnAtOnce();
        waitForOneOfSeveral();
        waitForAllBits();
        setOfATaskThatThereIsNot();
        setOfOneNotExtended();
        setOfOneSuspended();
        setWakes();
        setOfItself();
        setAcrossCores();
        clearItsOwn();
        clearOfOneNotExtended();
        Check.end();
    }

    /** "WAIT: code 2 if the task is not EXTENDED", and it goes on. */
    private static void waitOfOneNotExtended() {
        TaskCores x = new TaskCores(1);
        Check.task(x, 1, 0, "RUN 1, WAIT 1, RUN 1");
        x.activate(1, 0);
        x.run(9);
        Check.due("codes", Check.codes(x), "2:1:2");
        Check.due("used(1)", x.used(1), 3);
    }

    /** "code 4 if it holds a resource ..", and it goes on. */
    private static void waitWithAResource() {
        TaskCores x = new TaskCores(1);
        Check.extended(x, 1, 0, "GET 1, RUN 1, WAIT 1, RUN 1, FREE 1");
        x.activate(1, 0);
        x.run(9);
        Check.due("codes", Check.codes(x), "4:1:2");
        Check.due("used(1)", x.used(1), 3);
        Check.due("state(1)", x.state(1), 0);
    }

    /** ".. or lock". */
    private static void waitWithALock() {
        TaskCores x = new TaskCores(1);
        Check.extended(x, 1, 0, "LOCK 16, RUN 1, WAIT 1, RUN 1, UNLOCK 16");
        x.activate(1, 0);
        x.run(9);
        Check.due("codes", Check.codes(x), "4:1:2");
        Check.due("used(1)", x.used(1), 3);
        Check.due("state(1)", x.state(1), 0);
    }

    private static void waitWithNothingAnyMore() {
        TaskCores x = new TaskCores(1);
        Check.extended(x, 1, 0, "GET 1, GET 2, LOCK 1, LOCK 2, UNLOCK 1, FREE 2, UNLOCK 2, FREE 1, WAIT 1");
        x.activate(1, 0);
        x.run(9);
        Check.due("codes", Check.codes(x), "");
        Check.due("state(1)", x.state(1), 3);
    }

    /** "it goes on at once, if it has one of the EVENTS": no time, and no READY between. */
    private static void waitGoesOnAtOnce() {
        TaskCores x = new TaskCores(1);
        Check.extended(x, 1, 0, "RUN 2, WAIT 3, RUN 2");
        Check.task(x, 1, 0, "RUN 1");
        x.activate(1, 0);
        x.activate(2, 1);
        x.run(1);
        x.event(1, 6);
        x.run(9);
        Check.due("switches", Check.switches(x), "0:0:1 5:0:2 7:0:0");
        Check.due("EVENTS stay", x.events(1), 6);
    }

    /** "it is WAITING until one of them is SET". */
    private static void waitForOneOfSeveral() {
        TaskCores x = new TaskCores(1);
        Check.extended(x, 1, 0, "WAIT 6, RUN 1");
        x.activate(1, 0);
        x.run(3);
        x.event(1, 9);
        Check.due("neither of them", x.state(1), 3);
        x.event(1, 4);
        Check.due("one of them", x.state(1), 1);
        x.run(3);
        Check.due("switches", Check.switches(x), "0:0:1 1:0:0 3:0:1 4:0:0");
    }

    private static void waitForAllBits() {
        for (int bit = 0; bit < 16; bit += 15) {
            TaskCores x = new TaskCores(1);
            Check.extended(x, 1, 0, "WAIT 65535");
            Check.task(x, 1, 0, "SET 1:" + (1 << bit));
            x.activate(1, 0);
            x.activate(2, 2);
            x.run(3);
            Check.due("bit " + bit + ": before", x.state(1), 3);
            x.run(3);
            Check.due("bit " + bit + ": behind", x.state(1), 0);
            Check.due("bit " + bit + ": events(1)", x.events(1), 1 << bit);
        }
    }

    /** "SET of a task that there is not: code 8", with the one that does it. */
    private static void setOfATaskThatThereIsNot() {
        TaskCores x = new TaskCores(1);
        Check.task(x, 1, 0, "SET 3:1, SET 2:1, SET 100:65535, RUN 1");
        Check.extended(x, 5, 0, "WAIT 2");
        x.activate(2, 0);
        x.activate(1, 1);
        x.run(9);
        Check.due("codes", Check.codes(x), "8:1:2 8:1:2");
        Check.due("events(2)", x.events(2), 1);
        Check.due("used(1)", x.used(1), 2);
    }

    /** "SET: code 5 if the other one is not EXTENDED". */
    private static void setOfOneNotExtended() {
        TaskCores x = new TaskCores(2);
        Check.task(x, 1, 0, "SET 2:1, SET 1:1, RUN 1");
        Check.task(x, 1, 1, "RUN 9");
        x.activate(1, 0);
        x.activate(2, 0);
        x.run(5);
        Check.due("codes", Check.codes(x), "5:1:1 5:1:1");
        Check.due("events(1)", x.events(1), 0);
        Check.due("events(2)", x.events(2), 0);
        Check.due("used(1)", x.used(1), 2);
    }

    /** "SET: code 5 if the other one is .. SUSPENDED". */
    private static void setOfOneSuspended() {
        TaskCores x = new TaskCores(1);
        Check.task(x, 1, 0, "SET 2:1, ACTIVATE 2, SET 2:2, RUN 1");
        Check.extended(x, 1, 0, "RUN 1");
        x.activate(1, 0);
        x.activate(1, 9);
        x.run(3);
        Check.due("codes at 3", Check.codes(x), "5:1:1");
        Check.due("events(2) at 3", x.events(2), 2);
        x.run(17);
        Check.due("codes: behind its end it is SUSPENDED again", Check.codes(x), "5:1:1 5:1:10");
        Check.due("events(2)", x.events(2), 2);
    }

    /** ".. then READY": task 2 of a higher rank comes between at once. */
    private static void setWakes() {
        TaskCores x = new TaskCores(1);
        Check.task(x, 1, 0, "RUN 3, SET 2:3, SET 2:4, RUN 1");
        Check.extended(x, 7, 0, "WAIT 4, RUN 2");
        x.activate(1, 0);
        x.activate(2, 0);
        x.run(20);
        Check.due("codes", Check.codes(x), "");
        Check.due("switches", Check.switches(x), "0:0:2 1:0:1 5:0:2 7:0:1 8:0:0");
        Check.due("events(2)", x.events(2), 7);
    }

    private static void setOfItself() {
        TaskCores x = new TaskCores(1);
        Check.extended(x, 1, 0, "SET 1:9, WAIT 8, RUN 1");
        x.activate(1, 0);
        x.run(9);
        Check.due("codes", Check.codes(x), "");
        Check.due("events(1)", x.events(1), 9);
        Check.due("used(1)", x.used(1), 2);
    }

    /** Core 1 wakes core 0 in microsecond 3, and core 0 has its STEPS once more in it. */
    private static void setAcrossCores() {
        TaskCores x = new TaskCores(2);
        Check.extended(x, 1, 0, "WAIT 1, UNLOCK 1, RUN 1");
        Check.task(x, 1, 1, "RUN 2, SET 1:1, RUN 1");
        x.activate(1, 0);
        x.activate(2, 0);
        x.run(9);
        Check.due("codes", Check.codes(x), "6:1:3");
        Check.due("switches", Check.switches(x), "0:0:1 0:1:2 1:0:0 3:0:1 4:0:0 4:1:0");
    }

    /** "CLEAR (EVENTS v, its own)": those of v alone, and those that it has not are no matter. */
    private static void clearItsOwn() {
        TaskCores x = new TaskCores(2);
        Check.extended(x, 1, 0, "SET 1:65535, SET 2:65535, CLEAR 32769, RUN 2, CLEAR 32769, CLEAR 65535, RUN 2");
        Check.extended(x, 1, 1, "RUN 9");
        x.activate(1, 0);
        x.activate(2, 0);
        x.run(2);
        Check.due("events(1) at 2", x.events(1), 32766);
        x.run(2);
        Check.due("events(1) at 4", x.events(1), 0);
        Check.due("events(2)", x.events(2), 65535);
        Check.due("codes", Check.codes(x), "");
    }

    /** "CLEAR: code 2 if the task is not EXTENDED". */
    private static void clearOfOneNotExtended() {
        TaskCores x = new TaskCores(1);
        Check.task(x, 1, 0, "CLEAR 1, RUN 1, CLEAR 65535");
        x.activate(1, 0);
        x.run(9);
        Check.due("codes", Check.codes(x), "2:1:1 2:1:2");
        Check.due("used(1)", x.used(1), 2);
    }
}
