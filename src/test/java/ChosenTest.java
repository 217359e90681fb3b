/** Terms: who is CHOSEN, by RANK, TURN, manner and SCHEDULE. */
public final class ChosenTest {
    public static void main(String[] args) {
        theGreaterRankIsTheHigher();
        ofSeveralTheRunningOne();
        ofSeveralTheLeastTurn();
        turnsOverAllTasks();
        turnAsItWas();
        wakingGivesATurn();
        notFullIsForTheRunningOne();
        notFullUntilItWaits();
        notFullAgainstTheHighest();
        notFullBehindEachKindOfPart();
        schedule();
        scheduleThisOnce();
        scheduleForGreaterOnesAlone();
        scheduleOfAFullOne();
        scheduleWithAResource();
        scheduleOfItsOwnCoreAlone();
        coresChooseTheirOwn();
        Check.end();
    }

    /** "RANK (0 .. 255, the greater one is the higher)": neighbours at both ends. */
    private static void theGreaterRankIsTheHigher() {
        int[][] pairs = {{0, 1}, {1, 2}, {127, 128}, {254, 255}, {0, 255}};
        for (int[] pair : pairs) {
            TaskCores x = new TaskCores(1);
            Check.task(x, pair[0], 0, "RUN 4");
            Check.task(x, pair[1], 0, "RUN 1");
            x.activate(1, 0);
            x.activate(2, 2);
            x.run(20);
            Check.due("ranks " + pair[0] + ", " + pair[1], Check.switches(x), "0:0:1 2:0:2 4:0:1 7:0:0");
        }
    }

    /** "of several the RUNNING one": an equal one does not come between, though FULL. */
    private static void ofSeveralTheRunningOne() {
        int[] ranks = {0, 7, 255};
        for (int rank : ranks) {
            TaskCores x = new TaskCores(1);
            Check.task(x, rank, 0, "RUN 1");
            Check.task(x, rank, 0, "RUN 4");
            x.activate(2, 0);
            x.activate(1, 1);
            x.run(20);
            Check.due("rank " + rank, Check.switches(x), "0:0:2 5:0:1 7:0:0");
        }
    }

    /** "then the one with the least TURN": as activated, whatever the numbers are. */
    private static void ofSeveralTheLeastTurn() {
        TaskCores x = new TaskCores(1);
        for (int i = 0; i < 4; i++) {
            Check.task(x, 3, 0, "RUN 1");
        }
        x.activate(3, 0);
        x.activate(4, 1);
        x.activate(1, 1);
        x.activate(2, 0);
        x.run(20);
        Check.due("by TURN", Check.switches(x), "0:0:3 2:0:2 4:0:4 6:0:1 8:0:0");
    }

    /** "TURNS are given one by one, over all tasks": those of another core between change nothing. */
    private static void turnsOverAllTasks() {
        TaskCores x = new TaskCores(2);
        Check.task(x, 3, 0, "RUN 1");
        Check.task(x, 3, 1, 5, "");
        Check.task(x, 3, 0, "RUN 1");
        Check.task(x, 9, 0, "RUN 5");
        x.activate(4, 0);
        x.activate(2, 1);
        x.activate(2, 1);
        x.activate(3, 1);
        x.activate(2, 2);
        x.activate(1, 3);
        x.run(20);
        Check.due("switches", Check.switches(x), "0:0:4 1:1:2 4:1:0 6:0:3 8:0:1 10:0:0");
    }

    /** "READY (with its TURN as it was)": task 1 goes on before task 2, which became READY later. */
    private static void turnAsItWas() {
        TaskCores x = new TaskCores(1);
        Check.task(x, 3, 0, "RUN 4");
        Check.task(x, 3, 0, "RUN 1");
        Check.task(x, 8, 0, "RUN 1");
        x.activate(1, 0);
        x.activate(2, 1);
        x.activate(3, 2);
        x.run(3);
        Check.due("state of the one that ran", x.state(1), 1);
        Check.due("state of the one that runs", x.state(3), 2);
        x.run(17);
        Check.due("switches", Check.switches(x), "0:0:1 2:0:3 4:0:1 7:0:2 9:0:0");
    }

    /** "A task that becomes READY has from then on a TURN": by SET too, behind task 2's. */
    private static void wakingGivesATurn() {
        TaskCores x = new TaskCores(1);
        Check.extended(x, 3, 0, "WAIT 1, RUN 2");
        Check.task(x, 3, 0, "RUN 2");
        Check.task(x, 9, 0, "RUN 3, SET 1:1, RUN 1");
        x.activate(1, 0);
        x.activate(3, 2);
        x.activate(2, 4);
        x.run(20);
        Check.due("switches", Check.switches(x), "0:0:1 1:0:0 2:0:3 7:0:2 10:0:1 12:0:0");
    }

    /** "the RUNNING one, if it is not FULL": a READY one is chosen by HEIGHT all the same. */
    private static void notFullIsForTheRunningOne() {
        TaskCores x = new TaskCores(1);
        Check.task(x, 1, 0, "RUN 2");
        Check.task(x, 2, 0, "RUN 2");
        x.manner(1, false);
        x.activate(1, 0);
        x.activate(2, 0);
        x.run(10);
        Check.due("the higher one first", Check.switches(x), "0:0:2 3:0:1 6:0:0");
    }

    private static void notFullUntilItWaits() {
        TaskCores x = new TaskCores(1);
        Check.extended(x, 1, 0, "RUN 3, WAIT 1, RUN 3");
        Check.task(x, 2, 0, "SET 1:1, RUN 2");
        x.manner(1, false);
        x.activate(1, 0);
        x.activate(2, 1);
        x.run(20);
        Check.due("switches", Check.switches(x), "0:0:1 4:0:2 7:0:1 10:0:0");
    }

    private static void notFullAgainstTheHighest() {
        TaskCores x = new TaskCores(1);
        Check.task(x, 0, 0, "RUN 1, GET 1, RUN 1, FREE 1, ACTIVATE 2, RUN 1");
        Check.task(x, 255, 0, "RUN 1");
        x.manner(1, false);
        x.activate(1, 0);
        x.run(20);
        Check.due("not between parts either", Check.switches(x), "0:0:1 4:0:2 6:0:0");
    }

    /** Task 2 is READY from 1 on; no part of task 1 but SCHEDULE lets it come between. */
    private static void notFullBehindEachKindOfPart() {
        String[] parts = {"RUN 1", "ACTIVATE 3", "ACTIVATE 1", "SET 1:1, WAIT 1", "SET 2:1", "CLEAR 1",
            "GET 1", "FREE 1", "GET 1, FREE 1", "LOCK 1", "UNLOCK 1", "LOCK 1, UNLOCK 1", "OFF 9", "ON",
            "OFF 9, ON"};
        for (String part : parts) {
            TaskCores x = new TaskCores(1);
            Check.extended(x, 1, 0, "RUN 1, " + part + ", RUN 1, RUN 1");
            Check.task(x, 9, 0, "");
            x.manner(1, false);
            x.activate(1, 0);
            x.activate(2, 1);
            x.run(20);
            String due = part.equals("RUN 1") ? "0:0:1 5:0:2 6:0:0" : "0:0:1 4:0:2 5:0:0";
            Check.due("behind " + part, Check.switches(x), due);
        }
    }

    /** "SCHEDULE: a task that is not FULL lets those of a greater HEIGHT come between". */
    private static void schedule() {
        TaskCores x = new TaskCores(1);
        Check.task(x, 1, 0, "SCHEDULE, RUN 4, SCHEDULE, RUN 2");
        Check.task(x, 9, 0, "RUN 2");
        x.manner(1, false);
        x.activate(1, 0);
        x.activate(2, 3);
        x.run(20);
        Check.due("at 5, not at 3", Check.switches(x), "0:0:1 5:0:2 8:0:1 10:0:0");
    }

    /** ".. this once": the SCHEDULE at 1 finds nobody, and task 2 must wait for the end at 6. */
    private static void scheduleThisOnce() {
        TaskCores x = new TaskCores(1);
        Check.task(x, 1, 0, "SCHEDULE, RUN 5");
        Check.task(x, 9, 0, "RUN 2");
        x.manner(1, false);
        x.activate(1, 0);
        x.activate(2, 3);
        x.run(20);
        Check.due("nobody there", Check.switches(x), "0:0:1 6:0:2 9:0:0");
        TaskCores y = new TaskCores(1);
        Check.task(y, 1, 0, "SCHEDULE, RUN 5");
        Check.task(y, 9, 0, "");
        Check.task(y, 9, 0, "");
        y.manner(1, false);
        y.activate(1, 0);
        y.activate(2, 1);
        y.activate(3, 3);
        y.run(20);
        Check.due("one there", Check.switches(y), "0:0:1 1:0:2 2:0:1 7:0:3 8:0:0");
    }

    /** An equal one does not come between, a greater one does, even if it became READY later. */
    private static void scheduleForGreaterOnesAlone() {
        TaskCores x = new TaskCores(1);
        Check.task(x, 4, 0, "RUN 3, SCHEDULE, RUN 3");
        Check.task(x, 4, 0, "RUN 1");
        Check.task(x, 5, 0, "RUN 1");
        x.manner(1, false);
        x.activate(1, 0);
        x.activate(2, 1);
        x.activate(3, 2);
        x.run(20);
        Check.due("switches", Check.switches(x), "0:0:1 4:0:3 6:0:1 9:0:2 11:0:0");
    }

    private static void scheduleOfAFullOne() {
        TaskCores x = new TaskCores(1);
        Check.task(x, 4, 0, "RUN 2, SCHEDULE, RUN 2");
        Check.task(x, 4, 0, "RUN 1");
        x.activate(1, 0);
        x.activate(2, 1);
        x.run(20);
        Check.due("it changes nothing", Check.switches(x), "0:0:1 5:0:2 7:0:0");
        Check.due("codes", Check.codes(x), "");
    }

    /** "of a greater HEIGHT": with resource 1 task 1 has the HEIGHT 6, task 2 is not greater. */
    private static void scheduleWithAResource() {
        TaskCores x = new TaskCores(1);
        Check.task(x, 1, 0, "GET 1, RUN 2, SCHEDULE, RUN 2, FREE 1, SCHEDULE, RUN 2");
        Check.task(x, 6, 0, "GET 1, FREE 1");
        x.manner(1, false);
        x.activate(1, 0);
        x.activate(2, 1);
        x.run(20);
        Check.due("switches", Check.switches(x), "0:0:1 5:0:2 6:0:1 8:0:0");
        Check.due("codes", Check.codes(x), "");
    }

    /** The SCHEDULE of core 1 at 4 lets task 4 come between there; task 1 of core 0 stays to its end. */
    private static void scheduleOfItsOwnCoreAlone() {
        TaskCores x = new TaskCores(2);
        Check.task(x, 1, 0, "RUN 6");
        Check.task(x, 9, 0, "RUN 1");
        Check.task(x, 1, 1, "RUN 3, SCHEDULE, RUN 3");
        Check.task(x, 9, 1, "RUN 1");
        x.manner(1, false);
        x.manner(3, false);
        x.activate(1, 0);
        x.activate(3, 0);
        x.activate(2, 2);
        x.activate(4, 2);
        x.run(20);
        Check.due("switches", Check.switches(x), "0:0:1 0:1:3 4:1:4 6:1:3 7:0:2 9:0:0 9:1:0");
    }

    /** "CHOSEN is of all READY and RUNNING tasks of the core". */
    private static void coresChooseTheirOwn() {
        TaskCores x = new TaskCores(8);
        for (int core = 0; core < 8; core++) {
            Check.task(x, 8 - core, core, "RUN " + (core + 1));
            x.activate(core + 1, 0);
        }
        x.run(1);
        for (int core = 0; core < 8; core++) {
            Check.due("running(" + core + ", 0)", x.running(core, 0), core + 1);
        }
        x.run(20);
        for (int core = 0; core < 8; core++) {
            Check.due("used(" + (core + 1) + ")", x.used(core + 1), core + 2);
        }
    }
}
