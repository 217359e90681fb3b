/** Promise 16: spin. */
public final class SpinTest {
    public static void main(String[] args) {
        thereIsNoCore();
        noLock();
        theFirstThatFits();
        neither();
        theOneThatHasIt();
        theFirstOfThatCore();
        hasItAndOthersOfItsCoreWait();
        eachLockIsItsOwn();
        Check.end();
    }

    /** "-1000 there is no core". */
    private static void thereIsNoCore() {
        TaskCores two = new TaskCores(2);
        int[] unknown = {-1, 2, 3, 8, Integer.MIN_VALUE, Integer.MAX_VALUE};
        for (int core : unknown) {
            Check.due("2 cores: spin(" + core + ", 1)", two.spin(core, 1), -1000);
        }
        Check.due("2 cores: spin(0, 1)", two.spin(0, 1), 0);
        Check.due("2 cores: spin(1, 1)", two.spin(1, 1), 0);
        TaskCores eight = new TaskCores(8);
        Check.due("8 cores: spin(7, 1)", eight.spin(7, 1), 0);
        Check.due("8 cores: spin(8, 1)", eight.spin(8, 1), -1000);
    }

    /** "-2000 no lock": 1 .. 16 are. */
    private static void noLock() {
        TaskCores x = new TaskCores(1);
        int[] unknown = {0, -1, 17, 18, 32, Integer.MIN_VALUE, Integer.MAX_VALUE};
        for (int lock : unknown) {
            Check.due("spin(0, " + lock + ")", x.spin(0, lock), -2000);
        }
        Check.due("spin(0, 1)", x.spin(0, 1), 0);
        Check.due("spin(0, 16)", x.spin(0, 16), 0);
    }

    private static void theFirstThatFits() {
        TaskCores x = new TaskCores(1);
        Check.due("spin(1, 17)", x.spin(1, 17), -1000);
        Check.due("spin(-1, 0)", x.spin(-1, 0), -1000);
    }

    /** "0 for neither": nobody has it, one of another core has it, nobody has it any more. */
    private static void neither() {
        TaskCores x = new TaskCores(2);
        Check.task(x, 1, 0, "LOCK 1, RUN 2, UNLOCK 1, RUN 2");
        x.activate(1, 0);
        Check.due("at first", x.spin(0, 1), 0);
        x.run(1);
        Check.due("before LOCK", x.spin(0, 1), 0);
        x.run(1);
        Check.due("behind LOCK", x.spin(0, 1), 1);
        Check.due("of the other core", x.spin(1, 1), 0);
        x.run(2);
        Check.due("behind UNLOCK", x.spin(0, 1), 0);
    }

    /** "The task of a core that has a lock": the first and the last lock, on the first and last core. */
    private static void theOneThatHasIt() {
        TaskCores x = new TaskCores(8);
        Check.task(x, 1, 0, "LOCK 16, RUN 5");
        Check.task(x, 1, 7, "LOCK 1, RUN 5");
        x.activate(1, 0);
        x.activate(2, 0);
        x.run(3);
        Check.due("spin(0, 16)", x.spin(0, 16), 1);
        Check.due("spin(7, 1)", x.spin(7, 1), 2);
        Check.due("spin(7, 16)", x.spin(7, 16), 0);
        Check.due("spin(0, 1)", x.spin(0, 1), 0);
    }

    /** "negative, the first one of that core in its QUEUE": task 4 came to it before task 3. */
    private static void theFirstOfThatCore() {
        TaskCores x = new TaskCores(3);
        Check.task(x, 1, 0, "LOCK 1, RUN 20, UNLOCK 1");
        Check.task(x, 1, 2, "LOCK 1, RUN 20");
        Check.task(x, 9, 1, "LOCK 1, UNLOCK 1");
        Check.task(x, 5, 1, "LOCK 1, UNLOCK 1");
        x.activate(1, 0);
        x.activate(2, 3);
        x.activate(4, 5);
        x.activate(3, 8);
        x.run(5);
        Check.due("spin(1, 1) at 5", x.spin(1, 1), 0);
        x.run(2);
        Check.due("spin(1, 1) at 7", x.spin(1, 1), -4);
        Check.due("spin(2, 1) at 7", x.spin(2, 1), -2);
        x.run(4);
        Check.due("spin(1, 1) at 11", x.spin(1, 1), -4);
        Check.due("the other one runs and spins", x.state(3), 2);
        x.run(11);
        Check.due("spin(0, 1) at 22", x.spin(0, 1), 0);
        Check.due("spin(2, 1) at 22", x.spin(2, 1), 2);
        Check.due("spin(1, 1) at 22", x.spin(1, 1), -4);
    }

    /** The one that has it counts before those of its core that wait for it. */
    private static void hasItAndOthersOfItsCoreWait() {
        TaskCores x = new TaskCores(1);
        Check.task(x, 1, 0, "LOCK 2, RUN 3, UNLOCK 2");
        Check.task(x, 5, 0, "LOCK 2, UNLOCK 2");
        x.activate(1, 0);
        x.activate(2, 2);
        x.run(9);
        Check.due("spin(0, 2)", x.spin(0, 2), 1);
        Check.due("state(2)", x.state(2), 2);
    }

    private static void eachLockIsItsOwn() {
        TaskCores x = new TaskCores(1);
        x.task(1, 0, 1, false);
        for (int lock = 16; lock >= 1; lock--) {
            x.part(1, 8, lock);
        }
        x.part(1, 0, 2);
        for (int lock = 1; lock <= 16; lock += 2) {
            x.part(1, 9, lock);
        }
        x.part(1, 0, 2);
        x.activate(1, 0);
        x.run(2);
        for (int lock = 1; lock <= 16; lock++) {
            Check.due("spin(0, " + lock + ") at 2", x.spin(0, lock), 1);
        }
        x.run(2);
        for (int lock = 1; lock <= 16; lock++) {
            Check.due("spin(0, " + lock + ") at 4", x.spin(0, lock), lock % 2 == 1 ? 0 : 1);
        }
        Check.due("codes", Check.codes(x), "");
    }
}
