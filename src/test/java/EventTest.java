/** Promises 12 and 13: event and events. */
public final class EventTest {
    public static void main(String[] args) {
        eventOfNone();
        eventsOfNone();
        notOneToSixteenBits();
        notExtended();
        suspended();
        readyRunningAndWaiting();
        beforeTheNextMicrosecond();
        oneThatItDoesNotWaitFor();
        theFirstThatFits();
        refusedSetsNothing();
        allBits();
        Check.end();
    }

    /** "-1 there is none", of event. */
    private static void eventOfNone() {
        TaskCores x = new TaskCores(1);
        Check.due("event(1, 1) of none", x.event(1, 1), -1);
        Check.extended(x, 1, 0, "WAIT 1");
        x.activate(1, 0);
        x.run(3);
        int[] unknown = {0, -1, 2, 100, 101, Integer.MIN_VALUE, Integer.MAX_VALUE};
        for (int task : unknown) {
            Check.due("event(" + task + ", 1)", x.event(task, 1), -1);
        }
        Check.due("it still waits", x.state(1), 3);
        Check.due("event(1, 1)", x.event(1, 1), 1);
    }

    /** "-1 there is none", of events. */
    private static void eventsOfNone() {
        TaskCores x = new TaskCores(1);
        Check.due("events(1) of none", x.events(1), -1);
        x.task(1, 0, 1, false);
        int[] unknown = {0, -1, 2, 100, 101, Integer.MIN_VALUE, Integer.MAX_VALUE};
        for (int task : unknown) {
            Check.due("events(" + task + ")", x.events(task), -1);
        }
        Check.due("events(1)", x.events(1), 0);
    }

    /** "-2 not 1 .. 65535". */
    private static void notOneToSixteenBits() {
        TaskCores x = new TaskCores(1);
        Check.extended(x, 1, 0, "WAIT 65535");
        x.activate(1, 0);
        x.run(3);
        int[] none = {0, -1, 65536, 65537, -65535, Integer.MIN_VALUE, Integer.MAX_VALUE};
        for (int e : none) {
            Check.due("event(1, " + e + ")", x.event(1, e), -2);
        }
        Check.due("it still waits", x.state(1), 3);
        Check.due("events(1)", x.events(1), 0);
        Check.due("event(1, 1)", x.event(1, 1), 1);
        Check.due("events(1) then", x.events(1), 1);
        Check.due("event(1, 65535)", x.event(1, 65535), 1);
        Check.due("events(1) at the end", x.events(1), 65535);
    }

    /** "-3 it is not EXTENDED", in whichever state. */
    private static void notExtended() {
        TaskCores x = new TaskCores(1);
        Check.task(x, 2, 0, "RUN 4");
        Check.task(x, 1, 0, "RUN 4");
        Check.due("SUSPENDED", x.event(1, 1), -3);
        x.activate(1, 0);
        x.activate(2, 0);
        x.run(2);
        Check.due("RUNNING", x.event(1, 1), -3);
        Check.due("READY", x.event(2, 65535), -3);
        Check.due("events(1)", x.events(1), 0);
        Check.due("events(2)", x.events(2), 0);
    }

    /** "-3 .. or SUSPENDED": before it was activated, and behind its end. */
    private static void suspended() {
        TaskCores x = new TaskCores(1);
        Check.extended(x, 1, 0, "RUN 2");
        Check.due("before", x.event(1, 1), -3);
        x.activate(1, 2);
        Check.due("told, but not yet activated", x.event(1, 1), -3);
        x.run(2);
        Check.due("still not", x.event(1, 1), -3);
        x.run(1);
        Check.due("activated", x.event(1, 2), 1);
        x.run(9);
        Check.due("behind its end", x.event(1, 1), -3);
        Check.due("events(1)", x.events(1), 2);
    }

    private static void readyRunningAndWaiting() {
        TaskCores x = new TaskCores(1);
        Check.extended(x, 9, 0, "WAIT 8");
        Check.extended(x, 5, 0, "RUN 5");
        Check.extended(x, 1, 0, "RUN 5");
        for (int task = 1; task <= 3; task++) {
            x.activate(task, 0);
        }
        x.run(3);
        Check.due("state(1)", x.state(1), 3);
        Check.due("WAITING", x.event(1, 1), 1);
        Check.due("state(2)", x.state(2), 2);
        Check.due("RUNNING", x.event(2, 2), 1);
        Check.due("state(3)", x.state(3), 1);
        Check.due("READY", x.event(3, 4), 1);
        Check.due("events(1)", x.events(1), 1);
        Check.due("events(2)", x.events(2), 2);
        Check.due("events(3)", x.events(3), 4);
        Check.due("state(1) as before", x.state(1), 3);
        Check.due("state(2) as before", x.state(2), 2);
        Check.due("state(3) as before", x.state(3), 1);
    }

    /** "From outside, before the next microsecond": it comes between in microsecond 4 already. */
    private static void beforeTheNextMicrosecond() {
        TaskCores x = new TaskCores(1);
        Check.extended(x, 9, 0, "WAIT 4, RUN 1");
        Check.task(x, 1, 0, "RUN 9");
        x.activate(1, 0);
        x.activate(2, 0);
        x.run(4);
        Check.due("event(1, 4)", x.event(1, 4), 1);
        Check.due("events(1)", x.events(1), 4);
        x.run(16);
        Check.due("switches", Check.switches(x), "0:0:1 1:0:2 4:0:1 5:0:2 12:0:0");
    }

    private static void oneThatItDoesNotWaitFor() {
        TaskCores x = new TaskCores(1);
        Check.extended(x, 1, 0, "WAIT 4, RUN 1");
        x.activate(1, 0);
        x.run(4);
        Check.due("event(1, 65531)", x.event(1, 65531), 1);
        Check.due("it still waits", x.state(1), 3);
        x.run(2);
        Check.due("it waits on", x.state(1), 3);
        Check.due("event(1, 4)", x.event(1, 4), 1);
        Check.due("they are together", x.events(1), 65535);
        Check.due("it is READY", x.state(1), 1);
        x.run(4);
        Check.due("switches", Check.switches(x), "0:0:1 1:0:0 6:0:1 7:0:0");
    }

    /** "REFUSALS .. the first that fits". */
    private static void theFirstThatFits() {
        TaskCores x = new TaskCores(1);
        x.task(1, 0, 1, false);
        x.task(1, 0, 1, true);
        Check.due("no task, no event", x.event(3, 0), -1);
        Check.due("not EXTENDED, no event", x.event(1, 0), -2);
        Check.due("SUSPENDED, no event", x.event(2, 65536), -2);
        Check.due("not EXTENDED", x.event(1, 1), -3);
        Check.due("SUSPENDED", x.event(2, 1), -3);
    }

    private static void refusedSetsNothing() {
        TaskCores x = new TaskCores(1);
        Check.extended(x, 1, 0, "RUN 2, WAIT 65535, RUN 1");
        x.event(1, 1);
        x.activate(1, 0);
        x.run(1);
        x.event(1, 0);
        x.event(1, 65536);
        x.event(1, -1);
        x.event(2, 1);
        Check.due("events(1)", x.events(1), 0);
        x.run(9);
        Check.due("it waits", x.state(1), 3);
    }

    /** Each of the 16 bits alone wakes one that waits for it, and none of the others does. */
    private static void allBits() {
        for (int bit = 0; bit < 16; bit++) {
            TaskCores x = new TaskCores(1);
            Check.extended(x, 1, 0, "WAIT " + (1 << bit));
            x.activate(1, 0);
            x.run(3);
            x.event(1, 65535 - (1 << bit));
            Check.due("bit " + bit + ", the others", x.state(1), 3);
            x.event(1, 1 << bit);
            Check.due("bit " + bit, x.state(1), 1);
        }
    }
}
