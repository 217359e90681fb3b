/** Terms: the part CHAIN. */
public final class ChainTest {
    public static void main(String[] args) {
        toAnother();
        toOneOfAHigherRank();
        toAnotherThatHasTooMany();
        toAnotherThatHasRoom();
        freesBeforeItActivates();
        wantedComesFirst();
        toItself();
        toItselfExtended();
        toItselfWantedStays();
        toItselfBehindOthers();
        toNone();
        toNoneWithWanted();
        Check.end();
    }

    /** "the task ends, then v is activated". */
    private static void toAnother() {
        TaskCores x = new TaskCores(2);
        Check.task(x, 5, 0, "RUN 2, CHAIN 2, RUN 9");
        Check.task(x, 1, 1, "RUN 1");
        x.activate(1, 1);
        x.run(20);
        Check.due("switches", Check.switches(x), "1:0:1 4:0:0 4:1:2 6:1:0");
        Check.due("codes", Check.codes(x), "");
        Check.due("state(1)", x.state(1), 0);
    }

    private static void toOneOfAHigherRank() {
        TaskCores x = new TaskCores(1);
        Check.task(x, 5, 0, "CHAIN 100");
        for (int i = 2; i <= 100; i++) {
            x.task(i, 0, 1, false);
        }
        x.activate(1, 0);
        x.run(9);
        Check.due("the last task is there", Check.switches(x), "0:0:1 1:0:100 2:0:0");
        Check.due("codes", Check.codes(x), "");
    }

    /** The task ends all the same; code 1 is told with the other one, behind code 3. */
    private static void toAnotherThatHasTooMany() {
        TaskCores x = new TaskCores(1);
        Check.task(x, 5, 0, "GET 1, RUN 1, CHAIN 2");
        Check.task(x, 1, 0, "RUN 5");
        x.activate(1, 1);
        x.activate(2, 0);
        x.run(20);
        Check.due("switches", Check.switches(x), "0:0:2 1:0:1 3:0:2 8:0:0");
        Check.due("codes", Check.codes(x), "3:1:3 1:2:3");
        Check.due("holder(1)", x.holder(1), 0);
    }

    private static void toAnotherThatHasRoom() {
        TaskCores x = new TaskCores(1);
        Check.task(x, 5, 0, "RUN 1, CHAIN 2");
        Check.task(x, 1, 0, 2, "RUN 5");
        x.activate(1, 1);
        x.activate(2, 0);
        x.run(20);
        Check.due("codes", Check.codes(x), "");
        Check.due("used(2)", x.used(2), 12);
    }

    /** Task 2 finds what task 1 held free. */
    private static void freesBeforeItActivates() {
        TaskCores x = new TaskCores(1);
        Check.task(x, 5, 0, "GET 1, LOCK 1, OFF 9, CHAIN 2");
        Check.task(x, 5, 0, "GET 1, FREE 1, LOCK 1, UNLOCK 1, OFF 9, ON, RUN 1");
        x.activate(1, 0);
        x.run(20);
        Check.due("codes", Check.codes(x), "3:1:1");
        Check.due("switches", Check.switches(x), "0:0:1 1:0:2 3:0:0");
    }

    /** The end of task 1 activates it anew before task 2 is activated: it has the lesser TURN. */
    private static void wantedComesFirst() {
        TaskCores x = new TaskCores(1);
        Check.task(x, 3, 0, 2, "RUN 1, CHAIN 2");
        Check.task(x, 3, 0, 2, "RUN 2");
        x.activate(1, 0);
        x.activate(1, 0);
        x.run(20);
        Check.due("switches", Check.switches(x), "0:0:1 4:0:2 10:0:0");
        Check.due("codes", Check.codes(x), "");
    }

    /** "the task itself: it is free, SUSPENDED and activated": with a bound of 1, too. */
    private static void toItself() {
        TaskCores x = new TaskCores(1);
        Check.task(x, 3, 0, "RUN 2, CHAIN 1, RUN 9");
        x.activate(1, 0);
        x.run(10);
        Check.due("codes", Check.codes(x), "");
        Check.due("switches", Check.switches(x), "0:0:1");
        Check.due("used(1)", x.used(1), 10);
    }

    private static void toItselfExtended() {
        TaskCores x = new TaskCores(1);
        Check.extended(x, 3, 0, "WAIT 1, RUN 1, CHAIN 1");
        x.activate(1, 0);
        x.run(3);
        x.event(1, 3);
        x.run(2);
        Check.due("activated anew without EVENTS", x.events(1), 0);
        x.run(2);
        Check.due("it waits again", x.state(1), 3);
        Check.due("codes", Check.codes(x), "");
    }

    /** "what is WANTED stays as it is": bound 2 and one WANTED, one more is always too many. */
    private static void toItselfWantedStays() {
        TaskCores x = new TaskCores(1);
        Check.task(x, 3, 0, 2, "RUN 2, CHAIN 1");
        x.activate(1, 0);
        x.activate(1, 1);
        x.activate(1, 4);
        x.activate(1, 10);
        x.run(20);
        Check.due("codes", Check.codes(x), "1:1:4 1:1:10");
        TaskCores y = new TaskCores(1);
        Check.task(y, 3, 0, 2, "RUN 2, CHAIN 1");
        y.activate(1, 0);
        y.activate(1, 10);
        y.activate(1, 13);
        y.run(20);
        Check.due("none WANTED: there is room for one", Check.codes(y), "1:1:13");
    }

    /** It has a new TURN, and is not RUNNING any more: the other one comes next, though not FULL. */
    private static void toItselfBehindOthers() {
        TaskCores x = new TaskCores(1);
        Check.task(x, 3, 0, "RUN 2, CHAIN 1");
        Check.task(x, 3, 0, "RUN 1");
        x.manner(1, false);
        x.activate(1, 0);
        x.activate(2, 1);
        x.run(10);
        Check.due("switches", Check.switches(x), "0:0:1 3:0:2 5:0:1");
    }

    /** "CHAIN .. of a task that there is not: code 8 (CHAIN ends the task then, as if by END)". */
    private static void toNone() {
        TaskCores x = new TaskCores(1);
        Check.task(x, 3, 0, "RUN 1, CHAIN 3, RUN 7");
        Check.task(x, 3, 0, "RUN 1, CHAIN 100, RUN 7");
        x.activate(1, 0);
        x.activate(2, 5);
        x.run(20);
        Check.due("codes", Check.codes(x), "8:1:2 8:2:7");
        Check.due("switches", Check.switches(x), "0:0:1 2:0:0 5:0:2 7:0:0");
        Check.due("state(1)", x.state(1), 0);
    }

    /** ".. as if by END": what it holds is free, and one that is WANTED is activated. */
    private static void toNoneWithWanted() {
        TaskCores x = new TaskCores(1);
        Check.task(x, 3, 0, 2, "LOCK 1, RUN 1, CHAIN 2, RUN 7");
        x.activate(1, 0);
        x.activate(1, 0);
        x.run(20);
        Check.due("codes", Check.codes(x), "8:1:2 3:1:2 8:1:4 3:1:4");
        Check.due("switches", Check.switches(x), "0:0:1 4:0:0");
        Check.due("spin(0, 1)", x.spin(0, 1), 0);
    }
}
