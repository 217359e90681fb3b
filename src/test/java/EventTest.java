/** Promises 12 and 13: event and events; and WAIT, SET and CLEAR. */
public final class EventTest {
    private static final int TASK_2 = 2 * 65536;
    private static final int TASK_3 = 3 * 65536;

    public static void main(String[] args) {
        refusals();
        fromOutside();
        oneOfTheEventsIsEnough();
        waitGoesOnAtOnce();
        setByAnother();
        codesOfWait();
        codesOfSetAndClear();
        wakingGivesATurn();
        Check.end();
    }

    private static void refusals() {
        TaskCores x = new TaskCores(1);
        Check.due("there is none", x.event(1, 1), -1);
        Check.taskWith(x, 1, 0, true, 3, 65535);
        Check.taskWith(x, 1, 0, false, 0, 9);
        Check.due("SUSPENDED", x.event(1, 1), -3);
        Check.due("event(3, 1)", x.event(3, 1), -1);
        Check.due("event(0, 0)", x.event(0, 0), -1);
        Check.due("event(1, 0)", x.event(1, 0), -2);
        Check.due("event(1, 65536)", x.event(1, 65536), -2);
        Check.due("event(1, -1)", x.event(1, -1), -2);
        Check.due("event(1, MIN_VALUE)", x.event(1, Integer.MIN_VALUE), -2);
        x.activate(1, 0);
        x.activate(2, 0);
        x.run(4);
        Check.due("not EXTENDED", x.event(2, 1), -3);
        Check.due("not EXTENDED, and no event", x.event(2, 0), -2);
        Check.due("events(2)", x.events(2), 0);
        Check.due("WAITING", x.event(1, 65535), 1);
        Check.due("events(1)", x.events(1), 65535);
    }

    private static void fromOutside() {
        TaskCores x = new TaskCores(1);
        Check.taskWith(x, 1, 0, true, 0, 3, 3, 4, 0, 1);
        x.activate(1, 0);
        x.run(2);
        Check.due("RUNNING", x.event(1, 1), 1);
        Check.due("events are there at once", x.events(1), 1);
        Check.due("it is still RUNNING", x.state(1), 2);
        x.run(4);
        Check.due("WAITING for another one", x.state(1), 3);
        Check.due("one that it does not wait for", x.event(1, 2), 1);
        Check.due("it is still WAITING", x.state(1), 3);
        Check.due("events are together", x.events(1), 3);
        Check.due("the one that it waits for", x.event(1, 4), 1);
        Check.due("it is READY", x.state(1), 1);
        x.run(4);
        Check.due("events stay", x.events(1), 7);
        Check.due("SUSPENDED behind its end", x.event(1, 1), -3);
        Check.due("switches", Check.switches(x), "0:0:1 4:0:0 6:0:1 7:0:0");
    }

    private static void oneOfTheEventsIsEnough() {
        TaskCores x = new TaskCores(1);
        Check.taskWith(x, 1, 0, true, 3, 6, 0, 1);
        x.activate(1, 0);
        x.run(3);
        x.event(1, 4);
        x.run(3);
        Check.due("switches", Check.switches(x), "0:0:1 1:0:0 3:0:1 4:0:0");
    }

    /** CLEAR takes away only its own EVENTS, so that the second WAIT still has one. */
    private static void waitGoesOnAtOnce() {
        TaskCores x = new TaskCores(1);
        Check.taskWith(x, 1, 0, true, 0, 2, 3, 3, 5, 1, 3, 2, 0, 1, 5, 6, 3, 2);
        x.activate(1, 0);
        x.run(1);
        x.event(1, 11);
        x.run(3);
        Check.due("events behind CLEAR 1", x.events(1), 10);
        x.run(6);
        Check.due("events behind CLEAR 6", x.events(1), 8);
        Check.due("it is WAITING", x.state(1), 3);
        Check.due("switches", Check.switches(x), "0:0:1 4:0:0");
    }

    /** Task 1 wakes task 2, of a higher rank, which comes between at once; itself it may SET too. */
    private static void setByAnother() {
        TaskCores x = new TaskCores(1);
        Check.taskWith(x, 1, 0, true, 0, 3, 4, TASK_2 + 5, 4, 65536 + 9, 3, 8, 0, 1);
        Check.taskWith(x, 7, 0, true, 3, 4, 0, 2);
        x.activate(1, 0);
        x.activate(2, 0);
        x.run(20);
        Check.due("codes", Check.codes(x), "");
        Check.due("switches", Check.switches(x), "0:0:2 1:0:1 5:0:2 7:0:1 8:0:0");
        Check.due("events(1)", x.events(1), 9);
        Check.due("events(2)", x.events(2), 5);
    }

    /** Code 2 without EXTENDED, code 4 with a resource or a lock even if the event is there. */
    private static void codesOfWait() {
        TaskCores x = new TaskCores(1);
        Check.taskWith(x, 9, 0, false, 6, 1, 3, 1, 7, 1);
        Check.taskWith(x, 5, 0, true, 4, TASK_2 + 1, 6, 1, 3, 1, 7, 1, 8, 1, 3, 1, 9, 1, 12, 5, 3, 1, 13, 0, 0, 1);
        x.activate(1, 0);
        x.activate(2, 0);
        x.run(20);
        Check.due("codes", Check.codes(x), "2:1:1 4:2:2 4:2:2");
        Check.due("switches", Check.switches(x), "0:0:1 1:0:2 3:0:0");
    }

    private static void codesOfSetAndClear() {
        TaskCores x = new TaskCores(1);
        Check.taskWith(x, 5, 0, false, 5, 1, 4, 65536 + 1, 4, TASK_2 + 1, 4, TASK_3 + 1, 4, 100 * 65536 + 1, 0, 1);
        Check.taskWith(x, 1, 0, true, 3, 2);
        x.activate(1, 0);
        x.activate(2, 4);
        x.activate(1, 9);
        x.run(20);
        Check.due("codes", Check.codes(x), "2:1:1 5:1:1 5:1:1 8:1:1 8:1:1 2:1:10 5:1:10 8:1:10 8:1:10");
        Check.due("events(2)", x.events(2), 1);
    }

    /** Task 1 waits and is woken behind the activation of task 2: task 2 has the lesser TURN. */
    private static void wakingGivesATurn() {
        TaskCores x = new TaskCores(1);
        Check.taskWith(x, 3, 0, true, 3, 1, 0, 2);
        Check.taskWith(x, 3, 0, false, 0, 2);
        Check.taskWith(x, 9, 0, false, 0, 3, 4, 65536 + 1, 0, 1);
        x.activate(1, 0);
        x.activate(3, 2);
        x.activate(2, 4);
        x.run(20);
        Check.due("switches", Check.switches(x), "0:0:1 1:0:0 2:0:3 7:0:2 10:0:1 12:0:0");
    }
}
