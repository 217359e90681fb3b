/** Terms: A TASK ENDS, by END and behind its last part; code 3. */
public final class EndTest {
    public static void main(String[] args) {
        endSkipsTheRest();
        behindTheLastPart();
        withoutParts();
        holdingNothing();
        holdingAResource();
        holdingALock();
        holdingOff();
        holdingAllOfThem();
        heldAndGivenBack();
        locksGoOn();
        heldOnceIsNotHeldAgain();
        oneWantedLess();
        wantedAreActivatedOneByOne();
        Check.end();
    }

    private static void endSkipsTheRest() {
        TaskCores x = new TaskCores(1);
        Check.task(x, 3, 0, "RUN 2, END, RUN 5, UNLOCK 1");
        x.activate(1, 0);
        x.run(20);
        Check.due("switches", Check.switches(x), "0:0:1 3:0:0");
        Check.due("codes", Check.codes(x), "");
        Check.due("state(1)", x.state(1), 0);
        x.activate(1, 20);
        x.run(20);
        Check.due("and begins anew", Check.switches(x), "0:0:1 3:0:0 20:0:1 23:0:0");
    }

    /** "Behind the last part the task ends." */
    private static void behindTheLastPart() {
        TaskCores x = new TaskCores(1);
        Check.task(x, 3, 0, "RUN 2");
        Check.task(x, 3, 0, "RUN 1, UNLOCK 1");
        x.activate(1, 0);
        x.activate(2, 1);
        x.run(20);
        Check.due("switches", Check.switches(x), "0:0:1 3:0:2 5:0:0");
        Check.due("state(1)", x.state(1), 0);
        Check.due("state(2)", x.state(2), 0);
    }

    private static void withoutParts() {
        TaskCores x = new TaskCores(1);
        Check.task(x, 3, 0, "");
        x.activate(1, 4);
        x.run(20);
        Check.due("its START alone", Check.switches(x), "4:0:1 5:0:0");
        Check.due("state(1)", x.state(1), 0);
        Check.due("codes", Check.codes(x), "");
    }

    /** "if it held something code 3": otherwise none. */
    private static void holdingNothing() {
        TaskCores x = new TaskCores(1);
        Check.extended(x, 3, 0, "SET 1:1, UNLOCK 1, RUN 1");
        x.activate(1, 0);
        x.run(9);
        Check.due("codes", Check.codes(x), "6:1:1");
    }

    private static void holdingAResource() {
        TaskCores x = new TaskCores(1);
        Check.task(x, 3, 0, "GET 32, UNLOCK 1, END");
        x.activate(1, 0);
        x.run(9);
        Check.due("codes", Check.codes(x), "6:1:1 3:1:1");
        Check.due("holder(32)", x.holder(32), 0);
    }

    private static void holdingALock() {
        TaskCores x = new TaskCores(1);
        Check.task(x, 3, 0, "LOCK 16, RUN 1, END");
        x.activate(1, 0);
        x.run(9);
        Check.due("codes", Check.codes(x), "3:1:2");
        Check.due("spin(0, 16)", x.spin(0, 16), 0);
    }

    /** They are ON then: the interrupt is at hand in the microsecond of the end. */
    private static void holdingOff() {
        TaskCores x = new TaskCores(1);
        Check.task(x, 2, 0, "OFF 50, RUN 3, END");
        Check.task(x, 1, 0, "RUN 1");
        x.activate(1, 0);
        x.activate(2, 1);
        x.interrupt(3, 2, 2);
        x.run(60);
        Check.due("codes", Check.codes(x), "3:1:4");
        Check.due("switches", Check.switches(x), "0:0:1 4:0:1003 6:0:2 8:0:0");
    }

    /** Code 3 once, however much it held. */
    private static void holdingAllOfThem() {
        TaskCores x = new TaskCores(1);
        Check.task(x, 3, 0, "GET 1, GET 32, LOCK 1, LOCK 16, OFF 9, RUN 1, END");
        Check.task(x, 3, 0, "GET 32, GET 1, FREE 1, FREE 32, LOCK 16, LOCK 1, UNLOCK 16, UNLOCK 1, OFF 1, ON, RUN 1");
        x.activate(1, 0);
        x.run(2);
        Check.due("holder(1) at 2", x.holder(1), 1);
        Check.due("holder(32) at 2", x.holder(32), 1);
        x.run(3);
        Check.due("codes", Check.codes(x), "3:1:2");
        Check.due("holder(1)", x.holder(1), 0);
        Check.due("holder(32)", x.holder(32), 0);
        Check.due("spin(0, 1)", x.spin(0, 1), 0);
        Check.due("spin(0, 16)", x.spin(0, 16), 0);
        x.activate(2, 6);
        x.run(10);
        Check.due("another one can have all of it", Check.codes(x), "3:1:2");
    }

    private static void heldAndGivenBack() {
        TaskCores x = new TaskCores(1);
        Check.task(x, 3, 0, "GET 1, LOCK 1, OFF 9, RUN 1, ON, UNLOCK 1, FREE 1, END");
        x.activate(1, 0);
        x.run(9);
        Check.due("codes", Check.codes(x), "");
    }

    /** Both locks go on to those that wait, in the microsecond of the end. */
    private static void locksGoOn() {
        TaskCores x = new TaskCores(3);
        Check.task(x, 1, 0, "LOCK 1, LOCK 16, RUN 4, END");
        Check.task(x, 1, 1, "LOCK 16, RUN 1, UNLOCK 16");
        Check.task(x, 1, 2, "LOCK 1, RUN 1, END, UNLOCK 1");
        for (int task = 1; task <= 3; task++) {
            x.activate(task, 0);
        }
        x.run(6);
        Check.due("spin(0, 1)", x.spin(0, 1), 0);
        Check.due("spin(2, 1)", x.spin(2, 1), 3);
        Check.due("spin(1, 16)", x.spin(1, 16), 2);
        x.run(6);
        Check.due("codes", Check.codes(x), "3:1:5 3:3:6");
        Check.due("switches", Check.switches(x), "0:0:1 0:1:2 0:2:3 5:0:0 6:1:0 6:2:0");
        Check.due("nobody has it", x.spin(2, 1), 0);
    }

    /** It ends with all it held at 2; activated anew it holds nothing, so that it may wait. */
    private static void heldOnceIsNotHeldAgain() {
        TaskCores x = new TaskCores(1);
        Check.extended(x, 1, 0, "WAIT 1, LOCK 1, GET 1");
        x.activate(1, 0);
        x.run(2);
        x.event(1, 1);
        x.run(2);
        x.activate(1, 4);
        x.run(4);
        Check.due("it may wait", x.state(1), 3);
        Check.due("codes", Check.codes(x), "3:1:2");
    }

    /** "if activations are WANTED, there is one less": with a bound of 2, one more may be told then. */
    private static void oneWantedLess() {
        TaskCores x = new TaskCores(1);
        Check.task(x, 1, 0, 2, "RUN 3");
        x.activate(1, 0);
        x.activate(1, 1);
        x.activate(1, 2);
        x.activate(1, 5);
        x.activate(1, 6);
        x.run(40);
        Check.due("codes", Check.codes(x), "1:1:2 1:1:6");
        Check.due("three times START and 3", x.used(1), 12);
    }

    /** ".. and it is activated", from its START on, in the microsecond of the end. */
    private static void wantedAreActivatedOneByOne() {
        TaskCores x = new TaskCores(1);
        Check.task(x, 1, 0, 3, "LOCK 1, RUN 1, END, RUN 9");
        x.activate(1, 0);
        x.activate(1, 0);
        x.activate(1, 0);
        x.run(20);
        Check.due("codes", Check.codes(x), "3:1:2 3:1:4 3:1:6");
        Check.due("switches", Check.switches(x), "0:0:1 6:0:0");
        Check.due("used(1)", x.used(1), 6);
    }
}
