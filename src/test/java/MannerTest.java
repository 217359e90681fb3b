/** Promise 4: manner; and who is CHOSEN by HEIGHT, by TURN, and by SCHEDULE. */
public final class MannerTest {
    public static void main(String[] args) {
        refusals();
        fullOrNot();
        mayBeChangedBack();
        schedule();
        scheduleThisOnce();
        scheduleOnlyForGreater();
        turns();
        turnStaysWhenAnotherComesBetween();
        notFullIsOnlyForTheRunningOne();
        Check.end();
    }

    private static void refusals() {
        TaskCores x = new TaskCores(1);
        Check.due("there is none", x.manner(1, false), -1);
        x.task(1, 0, 1, false);
        Check.due("manner(1, false)", x.manner(1, false), 1);
        Check.due("manner(1, true)", x.manner(1, true), 1);
        Check.due("manner(0, true)", x.manner(0, true), -1);
        Check.due("manner(2, true)", x.manner(2, true), -1);
        Check.due("manner(MIN_VALUE, true)", x.manner(Integer.MIN_VALUE, true), -1);
        x.run(0);
        Check.due("after run(0)", x.manner(1, true), 1);
        x.run(1);
        Check.due("after run(1)", x.manner(1, true), -3);
        Check.due("after run(1), no task", x.manner(2, true), -1);
    }

    /** Task 1 has rank 1 and runs 6; task 2 has rank 9, runs 2 and comes at 3. */
    private static TaskCores lowAndHigh() {
        TaskCores x = new TaskCores(1);
        Check.taskWith(x, 1, 0, false, 0, 4, 0, 2);
        Check.taskWith(x, 9, 0, false, 0, 2);
        x.activate(1, 0);
        x.activate(2, 3);
        return x;
    }

    private static void fullOrNot() {
        TaskCores full = lowAndHigh();
        full.run(20);
        Check.due("FULL", Check.switches(full), "0:0:1 3:0:2 6:0:1 10:0:0");
        TaskCores notFull = lowAndHigh();
        notFull.manner(1, false);
        notFull.run(20);
        Check.due("not FULL", Check.switches(notFull), "0:0:1 7:0:2 10:0:0");
    }

    private static void mayBeChangedBack() {
        TaskCores x = lowAndHigh();
        x.manner(1, false);
        x.manner(1, true);
        x.run(2);
        Check.due("too late", x.manner(1, false), -3);
        x.run(18);
        Check.due("FULL again", Check.switches(x), "0:0:1 3:0:2 6:0:1 10:0:0");
    }

    /** Not FULL, but SCHEDULE at 5 lets task 2 come between; the one at 1 is too early. */
    private static void schedule() {
        TaskCores x = new TaskCores(1);
        Check.taskWith(x, 1, 0, false, 10, 0, 0, 4, 10, 0, 0, 2);
        Check.taskWith(x, 9, 0, false, 0, 2);
        x.manner(1, false);
        x.activate(1, 0);
        x.activate(2, 3);
        x.run(20);
        Check.due("SCHEDULE", Check.switches(x), "0:0:1 5:0:2 8:0:1 10:0:0");
    }

    /** The SCHEDULE at 1 finds nobody, and so task 2 must wait for the end at 6. */
    private static void scheduleThisOnce() {
        TaskCores x = new TaskCores(1);
        Check.taskWith(x, 1, 0, false, 10, 0, 0, 5);
        Check.taskWith(x, 9, 0, false, 0, 2);
        x.manner(1, false);
        x.activate(1, 0);
        x.activate(2, 3);
        x.run(20);
        Check.due("SCHEDULE once", Check.switches(x), "0:0:1 6:0:2 9:0:0");
    }

    /** An equal one does not come between, a greater one does, even if it became READY later. */
    private static void scheduleOnlyForGreater() {
        TaskCores x = new TaskCores(1);
        Check.taskWith(x, 4, 0, false, 0, 3, 10, 0, 0, 3);
        Check.taskWith(x, 4, 0, false, 0, 1);
        Check.taskWith(x, 5, 0, false, 0, 1);
        x.manner(1, false);
        x.activate(1, 0);
        x.activate(2, 1);
        x.activate(3, 2);
        x.run(20);
        Check.due("SCHEDULE for a greater one", Check.switches(x), "0:0:1 4:0:3 6:0:1 9:0:2 11:0:0");
    }

    /** Of one HEIGHT the least TURN: as activated, whatever the numbers are. */
    private static void turns() {
        TaskCores x = new TaskCores(1);
        for (int i = 0; i < 4; i++) {
            Check.taskWith(x, 3, 0, false, 0, 1);
        }
        x.activate(3, 0);
        x.activate(4, 1);
        x.activate(1, 1);
        x.activate(2, 0);
        x.run(20);
        Check.due("by TURN", Check.switches(x), "0:0:3 2:0:2 4:0:4 6:0:1 8:0:0");
    }

    /** Task 1 came before task 2; task 3 comes between; task 1 goes on, its TURN is the lesser. */
    private static void turnStaysWhenAnotherComesBetween() {
        TaskCores x = new TaskCores(1);
        Check.taskWith(x, 3, 0, false, 0, 4);
        Check.taskWith(x, 3, 0, false, 0, 1);
        Check.taskWith(x, 8, 0, false, 0, 1);
        x.activate(1, 0);
        x.activate(2, 1);
        x.activate(3, 2);
        x.run(3);
        Check.due("state of the one that ran", x.state(1), 1);
        Check.due("state of the one that runs", x.state(3), 2);
        x.run(17);
        Check.due("TURN stays", Check.switches(x), "0:0:1 2:0:3 4:0:1 7:0:2 9:0:0");
    }

    /** READY together, the higher one starts though the lower one, not FULL, has the lesser TURN. */
    private static void notFullIsOnlyForTheRunningOne() {
        TaskCores x = new TaskCores(1);
        Check.taskWith(x, 1, 0, false, 0, 2);
        Check.taskWith(x, 2, 0, false, 0, 2);
        x.manner(1, false);
        x.activate(1, 0);
        x.activate(2, 0);
        x.run(10);
        Check.due("the higher one first", Check.switches(x), "0:0:2 3:0:1 6:0:0");
    }
}
