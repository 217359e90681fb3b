/** CHAIN and END, as the terms of the document have them. */
public final class ChainTest {
    public static void main(String[] args) {
        toAnother();
        toAnotherThatIsFull();
        wantedComesFirst();
        toItself();
        toItselfWantedStays();
        toItselfBehindOthers();
        toNone();
        endSkipsTheRest();
        Check.end();
    }

    private static void toAnother() {
        TaskCores x = new TaskCores(2);
        Check.taskWith(x, 5, 0, false, 0, 2, 2, 2, 0, 9);
        Check.taskWith(x, 1, 1, false, 0, 1);
        x.activate(1, 1);
        x.run(20);
        Check.due("switches", Check.switches(x), "1:0:1 4:0:0 4:1:2 6:1:0");
        Check.due("codes", Check.codes(x), "");
    }

    /** The task ends all the same; code 1 is told with the other one. */
    private static void toAnotherThatIsFull() {
        TaskCores x = new TaskCores(1);
        Check.taskWith(x, 5, 0, false, 6, 1, 0, 1, 2, 2);
        Check.taskWith(x, 1, 0, false, 0, 5);
        x.activate(1, 1);
        x.activate(2, 0);
        x.run(20);
        Check.due("switches", Check.switches(x), "0:0:2 1:0:1 3:0:2 8:0:0");
        Check.due("codes", Check.codes(x), "3:1:3 1:2:3");
        Check.due("holder(1)", x.holder(1), 0);
    }

    /** The end of task 1 activates it anew before task 2 is activated: it has the lesser TURN. */
    private static void wantedComesFirst() {
        TaskCores x = new TaskCores(1);
        x.task(3, 0, 2, false);
        Check.addParts(x, 1, 0, 1, 2, 2);
        x.task(3, 0, 2, false);
        Check.addParts(x, 2, 0, 2);
        x.activate(1, 0);
        x.activate(1, 0);
        x.run(20);
        Check.due("switches", Check.switches(x), "0:0:1 4:0:2 10:0:0");
        Check.due("codes", Check.codes(x), "");
    }

    private static void toItself() {
        TaskCores x = new TaskCores(1);
        Check.taskWith(x, 3, 0, true, 8, 1, 4, 65536 + 1, 0, 2, 2, 1);
        x.activate(1, 0);
        x.run(3);
        Check.due("events at 3", x.events(1), 1);
        x.run(1);
        Check.due("it is RUNNING", x.state(1), 2);
        Check.due("without EVENTS", x.events(1), 0);
        Check.due("without the lock", x.spin(0, 1), 0);
        x.run(6);
        Check.due("codes", Check.codes(x), "3:1:3 3:1:6 3:1:9");
        Check.due("switches", Check.switches(x), "0:0:1");
        Check.due("used", x.used(1), 10);
    }

    /** Bound 2 and one WANTED: as long as it chains to itself, one more is too many. */
    private static void toItselfWantedStays() {
        TaskCores x = new TaskCores(1);
        x.task(3, 0, 2, false);
        Check.addParts(x, 1, 0, 2, 2, 1);
        x.activate(1, 0);
        x.activate(1, 1);
        x.activate(1, 4);
        x.activate(1, 10);
        x.run(20);
        Check.due("codes", Check.codes(x), "1:1:4 1:1:10");
    }

    /** It has a new TURN, and is not RUNNING any more: the other one comes next, though not FULL. */
    private static void toItselfBehindOthers() {
        TaskCores x = new TaskCores(1);
        Check.taskWith(x, 3, 0, false, 0, 2, 2, 1);
        Check.taskWith(x, 3, 0, false, 0, 1);
        x.manner(1, false);
        x.activate(1, 0);
        x.activate(2, 1);
        x.run(10);
        Check.due("switches", Check.switches(x), "0:0:1 3:0:2 5:0:1");
    }

    private static void toNone() {
        TaskCores x = new TaskCores(1);
        x.task(3, 0, 2, false);
        Check.addParts(x, 1, 8, 1, 0, 1, 2, 2, 0, 7);
        x.activate(1, 0);
        x.activate(1, 0);
        x.run(20);
        Check.due("codes", Check.codes(x), "8:1:2 3:1:2 8:1:4 3:1:4");
        Check.due("switches", Check.switches(x), "0:0:1 4:0:0");
    }

    private static void endSkipsTheRest() {
        TaskCores x = new TaskCores(1);
        Check.taskWith(x, 3, 0, false, 0, 2, 11, 0, 0, 5);
        x.task(3, 0, 1, false);
        x.activate(1, 0);
        x.activate(2, 1);
        x.run(3);
        Check.due("its RUN is through, its end is a STEP of the next microsecond", x.state(1), 2);
        x.run(17);
        Check.due("switches", Check.switches(x), "0:0:1 3:0:2 4:0:0");
        Check.due("a task without parts has its START", x.used(2), 1);
    }
}
