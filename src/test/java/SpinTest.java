/** Promise 16: spin; and LOCK and UNLOCK. */
public final class SpinTest {
    public static void main(String[] args) {
        refusals();
        inOrder();
        inOneMicrosecondByCore();
        alsoWhenItDoesNotRun();
        codes();
        endGivesTheLocksOn();
        heldOnceIsNotHeldAgain();
        againAndAgain();
        twoOfOneCore();
        Check.end();
    }

    private static void refusals() {
        TaskCores x = new TaskCores(2);
        Check.due("spin(0, 1)", x.spin(0, 1), 0);
        Check.due("spin(1, 16)", x.spin(1, 16), 0);
        Check.due("spin(2, 1)", x.spin(2, 1), -1000);
        Check.due("spin(-1, 1)", x.spin(-1, 1), -1000);
        Check.due("spin(MAX_VALUE, 1)", x.spin(Integer.MAX_VALUE, 1), -1000);
        Check.due("spin(0, 0)", x.spin(0, 0), -2000);
        Check.due("spin(0, 17)", x.spin(0, 17), -2000);
        Check.due("spin(0, MIN_VALUE)", x.spin(0, Integer.MIN_VALUE), -2000);
        Check.due("spin(2, 17)", x.spin(2, 17), -1000);
    }

    /** Core 2 asks at 2, core 1 at 4; core 0 frees the lock at 6; each has it for 3. */
    private static void inOrder() {
        TaskCores x = new TaskCores(3);
        Check.taskWith(x, 1, 0, false, 8, 1, 0, 5, 9, 1, 0, 1);
        Check.taskWith(x, 1, 1, false, 0, 3, 8, 1, 0, 3, 9, 1);
        Check.taskWith(x, 1, 2, false, 0, 1, 8, 1, 0, 3, 9, 1);
        for (int task = 1; task <= 3; task++) {
            x.activate(task, 0);
        }
        x.run(5);
        owners(x, "at 5", 1, -2, -3);
        Check.due("it spins, and is RUNNING", x.state(3), 2);
        x.run(1);
        owners(x, "at 6, before the STEPS", 1, -2, -3);
        x.run(1);
        owners(x, "at 7", 0, -2, 3);
        x.run(3);
        owners(x, "at 10", 0, 2, 0);
        x.run(10);
        owners(x, "at 20", 0, 0, 0);
        Check.due("switches", Check.switches(x), "0:0:1 0:1:2 0:2:3 7:0:0 9:2:0 12:1:0");
        Check.due("used(2): START, 3, 5 of spinning, 3", x.used(2), 12);
        Check.due("codes", Check.codes(x), "");
    }

    private static void owners(TaskCores x, String when, int... due) {
        for (int core = 0; core < due.length; core++) {
            Check.due("spin(" + core + ", 1) " + when, x.spin(core, 1), due[core]);
        }
    }

    /** All ask in microsecond 1: core 0 has it, core 1 stands before core 2. */
    private static void inOneMicrosecondByCore() {
        TaskCores x = new TaskCores(3);
        for (int core = 2; core >= 0; core--) {
            int task = Check.taskWith(x, 1, core, false, 8, 1, 0, 2, 9, 1);
            x.activate(task, 0);
        }
        x.run(2);
        owners(x, "at 2", 3, -2, -1);
        x.run(2);
        owners(x, "at 4", 0, 2, -1);
        x.run(2);
        owners(x, "at 6", 0, 0, 1);
        x.run(10);
        Check.due("switches", Check.switches(x), "0:0:3 0:1:2 0:2:1 3:0:0 5:1:0 7:2:0");
    }

    /** Task 2 spins from 1 on; task 3 comes between at 2; task 2 has the lock at 4 all the same. */
    private static void alsoWhenItDoesNotRun() {
        TaskCores x = new TaskCores(2);
        Check.taskWith(x, 1, 0, false, 8, 1, 0, 3, 9, 1, 0, 1, 8, 1, 9, 1);
        Check.taskWith(x, 1, 1, false, 8, 1, 0, 2, 9, 1);
        Check.taskWith(x, 7, 1, false, 0, 3);
        x.activate(1, 0);
        x.activate(2, 0);
        x.activate(3, 2);
        x.run(4);
        owners(x, "at 4", 1, -2);
        Check.due("it is READY", x.state(2), 1);
        x.run(2);
        owners(x, "at 6", -1, 2);
        x.run(14);
        Check.due("switches", Check.switches(x), "0:0:1 0:1:2 2:1:3 6:1:2 8:0:0 8:1:0");
        Check.due("used(1)", x.used(1), 8);
        Check.due("used(2)", x.used(2), 4);
        Check.due("codes", Check.codes(x), "");
    }

    private static void codes() {
        TaskCores x = new TaskCores(2);
        Check.taskWith(x, 1, 0, false, 9, 1, 8, 1, 8, 1, 0, 3, 9, 1, 9, 1);
        Check.taskWith(x, 1, 1, false, 0, 1, 9, 1, 0, 1);
        x.activate(1, 0);
        x.activate(2, 0);
        x.run(20);
        Check.due("codes", Check.codes(x), "6:1:1 6:1:1 6:2:2 6:1:4");
        Check.due("switches", Check.switches(x), "0:0:1 0:1:2 3:1:0 4:0:0");
    }

    /** Both locks go on in the microsecond of the end, and code 3 is told once. */
    private static void endGivesTheLocksOn() {
        TaskCores x = new TaskCores(3);
        Check.taskWith(x, 1, 0, false, 8, 1, 8, 16, 0, 4);
        Check.taskWith(x, 1, 1, false, 8, 16, 0, 1, 9, 16);
        Check.taskWith(x, 1, 2, false, 8, 1, 0, 1, 11, 0, 9, 1);
        for (int task = 1; task <= 3; task++) {
            x.activate(task, 0);
        }
        x.run(6);
        Check.due("spin(0, 1)", x.spin(0, 1), 0);
        Check.due("spin(2, 1)", x.spin(2, 1), 3);
        Check.due("spin(1, 16)", x.spin(1, 16), 2);
        x.run(6);
        Check.due("codes", Check.codes(x), "3:1:5 3:3:6");
        Check.due("switches", Check.switches(x), "0:0:1 0:1:2 0:2:3 5:0:0 6:1:0 6:2:0");
        Check.due("nobody has it", x.spin(2, 1), 0);
    }

    /** It ends with the lock at 2; activated anew it holds nothing, so that it may wait. */
    private static void heldOnceIsNotHeldAgain() {
        TaskCores x = new TaskCores(1);
        Check.taskWith(x, 1, 0, true, 3, 1, 8, 1);
        x.activate(1, 0);
        x.run(2);
        x.event(1, 1);
        x.run(2);
        x.activate(1, 4);
        x.run(4);
        Check.due("it may wait", x.state(1), 3);
        Check.due("codes", Check.codes(x), "3:1:2");
    }

    /** Three cores ask for one lock over and over: each waits behind those that asked before it. */
    private static void againAndAgain() {
        TaskCores x = new TaskCores(3);
        Check.taskWith(x, 1, 0, false, 8, 1, 0, 2, 9, 1, 8, 1, 0, 2, 9, 1, 8, 1, 0, 2, 9, 1);
        Check.taskWith(x, 1, 1, false, 8, 1, 0, 2, 9, 1, 8, 1, 0, 2, 9, 1);
        Check.taskWith(x, 1, 2, false, 8, 1, 0, 2, 9, 1);
        for (int task = 1; task <= 3; task++) {
            x.activate(task, 0);
        }
        x.run(4);
        owners(x, "at 4", -1, 2, -3);
        x.run(2);
        owners(x, "at 6", -1, -2, 3);
        x.run(2);
        owners(x, "at 8", 1, -2, 0);
        x.run(2);
        owners(x, "at 10", -1, 2, 0);
        x.run(2);
        owners(x, "at 12", 1, 0, 0);
        x.run(2);
        owners(x, "at 14", 0, 0, 0);
        Check.due("switches", Check.switches(x), "0:0:1 0:1:2 0:2:3 7:2:0 11:1:0 13:0:0");
        Check.due("codes", Check.codes(x), "");
    }

    /** The higher one spins for what the lower one of its core has, for ever: the lower is told. */
    private static void twoOfOneCore() {
        TaskCores x = new TaskCores(1);
        Check.taskWith(x, 1, 0, false, 8, 2, 0, 3, 9, 2);
        Check.taskWith(x, 5, 0, false, 8, 2, 9, 2);
        x.activate(1, 0);
        x.activate(2, 2);
        x.run(50000);
        Check.due("spin(0, 2)", x.spin(0, 2), 1);
        Check.due("used(2)", x.used(2), 49998);
        Check.due("switches", Check.switches(x), "0:0:1 2:0:2");
    }
}
