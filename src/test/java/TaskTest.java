/** Promise 2: task. */
public final class TaskTest {
    public static void main(String[] args) {
        numbersFromOneOn();
        atFirst();
        noSuchCore();
        rankIsNone();
        activationsAreNone();
        extendedWithMoreThanOne();
        timeWentByAlready();
        thereAreHundred();
        theFirstThatFits();
        refusedTakesNoNumber();
        Check.end();
    }

    /** "TASKS are numbered from 1 on". */
    private static void numbersFromOneOn() {
        TaskCores x = new TaskCores(2);
        Check.due("the first", x.task(9, 1, 1, false), 1);
        Check.due("the second", x.task(9, 1, 1, true), 2);
        Check.due("the third", x.task(0, 0, 5, false), 3);
    }

    /** "0 SUSPENDED (at first)", and nothing used, and no EVENTS. */
    private static void atFirst() {
        TaskCores x = new TaskCores(1);
        x.task(1, 0, 1, true);
        Check.due("state(1)", x.state(1), 0);
        Check.due("used(1)", x.used(1), 0);
        Check.due("events(1)", x.events(1), 0);
        x.run(10);
        Check.due("state(1) at 10", x.state(1), 0);
        Check.due("used(1) at 10", x.used(1), 0);
        Check.due("switches", Check.switches(x), "");
    }

    /** "-1 there is no such core". */
    private static void noSuchCore() {
        int[] unknown = {-1, -2, 8, 9, Integer.MIN_VALUE, Integer.MAX_VALUE};
        TaskCores eight = new TaskCores(8);
        for (int core : unknown) {
            Check.due("8 cores, core " + core, eight.task(1, core, 1, false), -1);
        }
        Check.due("8 cores, core 0", eight.task(1, 0, 1, false), 1);
        Check.due("8 cores, core 7", eight.task(1, 7, 1, false), 2);
        TaskCores one = new TaskCores(1);
        Check.due("1 core, core 1", one.task(1, 1, 1, false), -1);
        Check.due("1 core, core 0", one.task(1, 0, 1, false), 1);
    }

    /** "RANK (0 .. 255 ..)", "-2 rank .. none". */
    private static void rankIsNone() {
        TaskCores x = new TaskCores(1);
        Check.due("rank -1", x.task(-1, 0, 1, false), -2);
        Check.due("rank 256", x.task(256, 0, 1, false), -2);
        Check.due("rank MIN_VALUE", x.task(Integer.MIN_VALUE, 0, 1, false), -2);
        Check.due("rank MAX_VALUE", x.task(Integer.MAX_VALUE, 0, 1, false), -2);
        Check.due("rank 0", x.task(0, 0, 1, false), 1);
        Check.due("rank 255", x.task(255, 0, 1, false), 2);
    }

    /** "a BOUND of activations (1 .. 100)", "-2 .. activations are none". */
    private static void activationsAreNone() {
        TaskCores x = new TaskCores(1);
        Check.due("activations 0", x.task(1, 0, 0, false), -2);
        Check.due("activations -1", x.task(1, 0, -1, false), -2);
        Check.due("activations 101", x.task(1, 0, 101, false), -2);
        Check.due("activations MIN_VALUE", x.task(1, 0, Integer.MIN_VALUE, false), -2);
        Check.due("activations MAX_VALUE", x.task(1, 0, Integer.MAX_VALUE, false), -2);
        Check.due("activations 1", x.task(1, 0, 1, false), 1);
        Check.due("activations 100", x.task(1, 0, 100, false), 2);
    }

    /** "(EXTENDED with more than one)". */
    private static void extendedWithMoreThanOne() {
        TaskCores x = new TaskCores(1);
        Check.due("EXTENDED with 2", x.task(1, 0, 2, true), -2);
        Check.due("EXTENDED with 100", x.task(1, 0, 100, true), -2);
        Check.due("EXTENDED with 101", x.task(1, 0, 101, true), -2);
        Check.due("EXTENDED with 0", x.task(1, 0, 0, true), -2);
        Check.due("EXTENDED with 1", x.task(1, 0, 1, true), 1);
        Check.due("not EXTENDED with 2", x.task(1, 0, 2, false), 2);
    }

    /** "-3 time went by already": a run of 0, or one that is refused, is no time. */
    private static void timeWentByAlready() {
        TaskCores x = new TaskCores(1);
        x.run(0);
        Check.due("after run(0)", x.task(1, 0, 1, false), 1);
        x.run(50001);
        Check.due("after a run that was refused", x.task(1, 0, 1, false), 2);
        x.run(1);
        Check.due("after run(1)", x.task(1, 0, 1, false), -3);
        Check.due("state(3)", x.state(3), -1);
        x.run(49999);
        Check.due("at 50000", x.task(1, 0, 1, false), -3);
    }

    /** "at most 100", "-4 there are 100"; the last one is as good as the others. */
    private static void thereAreHundred() {
        TaskCores x = new TaskCores(1);
        for (int i = 1; i <= 100; i++) {
            Check.due("task " + i, x.task(i, 0, 1, false), i);
        }
        Check.due("task 101", x.task(1, 0, 1, false), -4);
        Check.due("state(101)", x.state(101), -1);
        Check.due("part of 101", x.part(101, 0, 1), -1);
        Check.due("task 101 again", x.task(1, 0, 1, true), -4);
        Check.due("state(100)", x.state(100), 0);
        Check.due("part of 100", x.part(100, 0, 2), 1);
        x.activate(1, 0);
        x.activate(100, 1);
        x.run(9);
        Check.due("switches", Check.switches(x), "0:0:1 1:0:100 4:0:0");
        Check.due("used(100)", x.used(100), 3);
    }

    /** "REFUSALS .. the first that fits". */
    private static void theFirstThatFits() {
        TaskCores x = new TaskCores(1);
        Check.due("no core, no rank, no activations", x.task(-1, 1, 0, false), -1);
        for (int i = 1; i <= 100; i++) {
            x.task(1, 0, 1, false);
        }
        Check.due("full: no core", x.task(1, 1, 1, false), -1);
        Check.due("full: no rank", x.task(256, 0, 1, false), -2);
        Check.due("full: no activations", x.task(1, 0, 2, true), -2);
        x.run(1);
        Check.due("full and time went by: no core", x.task(1, -1, 1, false), -1);
        Check.due("full and time went by: no rank", x.task(-1, 0, 1, false), -2);
        Check.due("full and time went by: no activations", x.task(1, 0, 101, false), -2);
        Check.due("full and time went by", x.task(1, 0, 1, false), -3);
    }

    private static void refusedTakesNoNumber() {
        TaskCores x = new TaskCores(1);
        x.task(1, 0, 1, false);
        x.task(1, 1, 1, false);
        x.task(256, 0, 1, false);
        x.task(1, 0, 101, false);
        x.task(1, 0, 2, true);
        Check.due("state(2)", x.state(2), -1);
        Check.due("activate(2, 0)", x.activate(2, 0), -1);
        Check.due("the next number", x.task(1, 0, 1, false), 2);
        for (int i = 3; i <= 100; i++) {
            Check.due("room for task " + i, x.task(1, 0, 1, false), i);
        }
    }
}
