/** Terms: the parts LOCK and UNLOCK, spinning, and the QUEUE. */
public final class LockTest {
    public static void main(String[] args) {
        lockThatItHas();
        lockThatItHadAndHasNot();
        unlockThatNobodyHas();
        unlockThatAnotherOneHas();
        unlockWhileOthersWait();
        freeAtOnce();
        inOrder();
        inOneMicrosecondByCore();
        alsoWhenItDoesNotRun();
        againAndAgain();
        sevenInTheQueue();
        manyOfOneCoreInTheQueue();
        twoOfOneCore();
        notFullAndSpinning();
        Check.end();
    }

    private static void owners(TaskCores x, String when, int... due) {
        for (int core = 0; core < due.length; core++) {
            Check.due("spin(" + core + ", 1) " + when, x.spin(core, 1), due[core]);
        }
    }

    /** "LOCK: code 6 if the task has it": it has it once, and one UNLOCK makes it free. */
    private static void lockThatItHas() {
        TaskCores x = new TaskCores(1);
        Check.task(x, 1, 0, "LOCK 1, LOCK 1, LOCK 2, RUN 1, UNLOCK 1, RUN 1, UNLOCK 2");
        x.activate(1, 0);
        x.run(2);
        Check.due("codes", Check.codes(x), "6:1:1");
        Check.due("spin(0, 1) at 2", x.spin(0, 1), 1);
        x.run(1);
        Check.due("spin(0, 1) at 3", x.spin(0, 1), 0);
        x.run(5);
        Check.due("codes at the end", Check.codes(x), "6:1:1");
    }

    private static void lockThatItHadAndHasNot() {
        TaskCores x = new TaskCores(1);
        Check.task(x, 1, 0, "LOCK 1, UNLOCK 1, LOCK 1, RUN 1, UNLOCK 1");
        x.activate(1, 0);
        x.run(2);
        Check.due("spin(0, 1)", x.spin(0, 1), 1);
        x.run(5);
        Check.due("codes", Check.codes(x), "");
    }

    /** "UNLOCK: code 6 if the task has not the lock": nobody has it. */
    private static void unlockThatNobodyHas() {
        TaskCores x = new TaskCores(1);
        Check.task(x, 1, 0, "UNLOCK 1, UNLOCK 16, LOCK 2, UNLOCK 2, UNLOCK 2, RUN 1");
        x.activate(1, 0);
        x.run(9);
        Check.due("codes", Check.codes(x), "6:1:1 6:1:1 6:1:1");
        Check.due("used(1)", x.used(1), 2);
    }

    /** "UNLOCK: code 6 if the task has not the lock": another one has it, and keeps it. */
    private static void unlockThatAnotherOneHas() {
        TaskCores x = new TaskCores(2);
        Check.task(x, 1, 0, "LOCK 1, RUN 9, UNLOCK 1");
        Check.task(x, 1, 1, "RUN 1, UNLOCK 1, RUN 1");
        x.activate(1, 0);
        x.activate(2, 0);
        x.run(5);
        Check.due("codes", Check.codes(x), "6:2:2");
        owners(x, "at 5", 1, 0);
        x.run(15);
        Check.due("codes at the end", Check.codes(x), "6:2:2");
    }

    private static void unlockWhileOthersWait() {
        TaskCores x = new TaskCores(3);
        Check.task(x, 1, 0, "LOCK 1, RUN 9, UNLOCK 1");
        Check.task(x, 1, 1, "LOCK 1, RUN 1, UNLOCK 1");
        Check.task(x, 1, 2, "RUN 3, UNLOCK 1, RUN 1");
        for (int task = 1; task <= 3; task++) {
            x.activate(task, 0);
        }
        x.run(6);
        Check.due("codes", Check.codes(x), "6:3:4");
        owners(x, "at 6", 1, -2, 0);
    }

    /** LOCK of what nobody has takes no time. */
    private static void freeAtOnce() {
        TaskCores x = new TaskCores(1);
        Check.task(x, 1, 0, "LOCK 1, UNLOCK 1, LOCK 1, UNLOCK 1, RUN 1");
        x.activate(1, 0);
        x.run(9);
        Check.due("switches", Check.switches(x), "0:0:1 2:0:0");
    }

    /** Core 2 asks at 2, core 1 at 4; core 0 frees the lock at 6; each has it for 3. */
    private static void inOrder() {
        TaskCores x = new TaskCores(3);
        Check.task(x, 1, 0, "LOCK 1, RUN 5, UNLOCK 1, RUN 1");
        Check.task(x, 1, 1, "RUN 3, LOCK 1, RUN 3, UNLOCK 1");
        Check.task(x, 1, 2, "RUN 1, LOCK 1, RUN 3, UNLOCK 1");
        for (int task = 1; task <= 3; task++) {
            x.activate(task, 0);
        }
        x.run(5);
        owners(x, "at 5", 1, -2, -3);
        x.run(1);
        owners(x, "at 6, before the STEPS", 1, -2, -3);
        x.run(1);
        owners(x, "at 7", 0, -2, 3);
        x.run(3);
        owners(x, "at 10", 0, 2, 0);
        x.run(10);
        owners(x, "at 20", 0, 0, 0);
        Check.due("switches", Check.switches(x), "0:0:1 0:1:2 0:2:3 7:0:0 9:2:0 12:1:0");
        Check.due("used(2): START, 3, 5 of spinning, 3", x.used(2), 12);
        Check.due("codes", Check.codes(x), "");
    }

    /** All ask in microsecond 1: core 0 has it, core 1 stands before core 2. */
    private static void inOneMicrosecondByCore() {
        TaskCores x = new TaskCores(3);
        for (int core = 2; core >= 0; core--) {
            int task = Check.task(x, 1, core, "LOCK 1, RUN 2, UNLOCK 1");
            x.activate(task, 0);
        }
        x.run(2);
        owners(x, "at 2", 3, -2, -1);
        x.run(2);
        owners(x, "at 4", 0, 2, -1);
        x.run(2);
        owners(x, "at 6", 0, 0, 1);
        x.run(10);
        Check.due("switches", Check.switches(x), "0:0:3 0:1:2 0:2:1 3:0:0 5:1:0 7:2:0");
    }

    /** "(whether it runs or not)": task 3 came between at 2, task 2 has the lock at 4 all the same. */
    private static void alsoWhenItDoesNotRun() {
        TaskCores x = new TaskCores(2);
        Check.task(x, 1, 0, "LOCK 1, RUN 3, UNLOCK 1, RUN 1, LOCK 1, UNLOCK 1");
        Check.task(x, 1, 1, "LOCK 1, RUN 2, UNLOCK 1");
        Check.task(x, 7, 1, "RUN 3");
        x.activate(1, 0);
        x.activate(2, 0);
        x.activate(3, 2);
        x.run(4);
        owners(x, "at 4", 1, -2);
        Check.due("it is READY", x.state(2), 1);
        x.run(2);
        owners(x, "at 6", -1, 2);
        x.run(14);
        Check.due("switches", Check.switches(x), "0:0:1 0:1:2 2:1:3 6:1:2 8:0:0 8:1:0");
        Check.due("used(1)", x.used(1), 8);
        Check.due("used(2)", x.used(2), 4);
        Check.due("codes", Check.codes(x), "");
    }

    /** Three cores ask for one lock over and over: each waits behind those that asked before it. */
    private static void againAndAgain() {
        TaskCores x = new TaskCores(3);
        Check.task(x, 1, 0, "LOCK 1, RUN 2, UNLOCK 1, LOCK 1, RUN 2, UNLOCK 1, LOCK 1, RUN 2, UNLOCK 1");
        Check.task(x, 1, 1, "LOCK 1, RUN 2, UNLOCK 1, LOCK 1, RUN 2, UNLOCK 1");
        Check.task(x, 1, 2, "LOCK 1, RUN 2, UNLOCK 1");
        for (int task = 1; task <= 3; task++) {
            x.activate(task, 0);
        }
        x.run(4);
        owners(x, "at 4", -1, 2, -3);
        x.run(2);
        owners(x, "at 6", -1, -2, 3);
        x.run(2);
        owners(x, "at 8", 1, -2, 0);
        x.run(2);
        owners(x, "at 10", -1, 2, 0);
        x.run(2);
        owners(x, "at 12", 1, 0, 0);
        x.run(2);
        owners(x, "at 14", 0, 0, 0);
        Check.due("switches", Check.switches(x), "0:0:1 0:1:2 0:2:3 7:2:0 11:1:0 13:0:0");
        Check.due("codes", Check.codes(x), "");
    }

    /** All cores at once; core 7 asked first, core 1 last. */
    private static void sevenInTheQueue() {
        TaskCores x = new TaskCores(8);
        Check.task(x, 1, 0, "LOCK 1, RUN 20, UNLOCK 1");
        for (int core = 1; core < 8; core++) {
            Check.task(x, 1, core, "RUN " + (10 - core) + ", LOCK 1, RUN 1, UNLOCK 1");
        }
        for (int task = 1; task <= 8; task++) {
            x.activate(task, 0);
        }
        x.run(21);
        owners(x, "at 21", 1, -2, -3, -4, -5, -6, -7, -8);
        x.run(1);
        owners(x, "at 22", 0, -2, -3, -4, -5, -6, -7, 8);
        x.run(1);
        owners(x, "at 23", 0, -2, -3, -4, -5, -6, 7, 0);
        x.run(5);
        owners(x, "at 28", 0, 2, 0, 0, 0, 0, 0, 0);
        x.run(5);
        owners(x, "at 33", 0, 0, 0, 0, 0, 0, 0, 0);
        Check.due("codes", Check.codes(x), "");
    }

    /** Each higher one of core 1 comes between and asks too: of 98 the first has it, the last runs. */
    private static void manyOfOneCoreInTheQueue() {
        TaskCores x = new TaskCores(2);
        Check.task(x, 1, 0, "LOCK 1, RUN 250, UNLOCK 1");
        x.activate(1, 0);
        for (int i = 2; i <= 99; i++) {
            Check.task(x, i, 1, "LOCK 1, UNLOCK 1");
            x.activate(i, 2 * i);
        }
        x.run(250);
        owners(x, "at 250", 1, -2);
        Check.due("the last one spins", x.state(99), 2);
        Check.due("the first one is READY", x.state(2), 1);
        x.run(2);
        owners(x, "at 252", 0, 2);
        Check.due("but the last one spins on", x.state(99), 2);
        x.run(100);
        Check.due("it spins, since task 2 does not run", x.running(1, 351), 99);
        owners(x, "at 352", 0, 2);
    }

    /** The higher one spins for what the lower one of its core has, to the end of time. */
    private static void twoOfOneCore() {
        TaskCores x = new TaskCores(1);
        Check.task(x, 1, 0, "LOCK 2, RUN 3, UNLOCK 2");
        Check.task(x, 5, 0, "LOCK 2, UNLOCK 2");
        x.activate(1, 0);
        x.activate(2, 2);
        x.run(50000);
        Check.due("used(2)", x.used(2), 49998);
        Check.due("switches", Check.switches(x), "0:0:1 2:0:2");
    }

    /** "its time goes by as if it ran": one that is not FULL spins on, though a higher one is READY. */
    private static void notFullAndSpinning() {
        TaskCores x = new TaskCores(2);
        Check.task(x, 1, 0, "LOCK 1, RUN 8, UNLOCK 1");
        Check.task(x, 1, 1, "LOCK 1, RUN 2, UNLOCK 1");
        Check.task(x, 7, 1, "RUN 3");
        x.manner(2, false);
        x.activate(1, 0);
        x.activate(2, 0);
        x.activate(3, 2);
        x.run(30);
        Check.due("switches", Check.switches(x), "0:0:1 0:1:2 9:0:0 11:1:3 15:1:0");
        Check.due("used(2)", x.used(2), 11);
    }
}
