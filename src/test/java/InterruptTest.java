/** Promise 6: interrupt; and which one is at hand. */
public final class InterruptTest {
    public static void main(String[] args) {
        refusals();
        atMostFiveHundred();
        overOneAnother();
        oneAfterTheOtherOnOneLevel();
        coreZeroAlone();
        noStepsMeanwhile();
        chosenMeanwhile();
        Check.end();
    }

    private static void refusals() {
        TaskCores x = new TaskCores(1);
        Check.due("interrupt(1, 0, 1)", x.interrupt(1, 0, 1), 1);
        Check.due("interrupt(15, 50000, 10000)", x.interrupt(15, 50000, 10000), 2);
        Check.due("level 0", x.interrupt(0, 0, 1), -2);
        Check.due("level 16", x.interrupt(16, 0, 1), -2);
        Check.due("level -1", x.interrupt(-1, 0, 1), -2);
        Check.due("at 50001", x.interrupt(1, 50001, 1), -2);
        Check.due("at -1", x.interrupt(1, -1, 1), -2);
        Check.due("at 2 to the 32nd", x.interrupt(1, 4294967296L, 1), -2);
        Check.due("micros 0", x.interrupt(1, 0, 0), -2);
        Check.due("micros 10001", x.interrupt(1, 0, 10001), -2);
        Check.due("micros -1", x.interrupt(1, 0, -1), -2);
        Check.due("micros MIN_VALUE", x.interrupt(1, 0, Long.MIN_VALUE), -2);
        Check.due("micros 2 to the 32nd and 1", x.interrupt(1, 0, 4294967297L), -2);
        x.run(5);
        Check.due("at 4, when it is 5", x.interrupt(1, 4, 1), -2);
        Check.due("at 5, when it is 5", x.interrupt(2, 5, 1), 3);
        x.run(5);
        Check.due("switches", Check.switches(x), "0:0:1001 1:0:0 5:0:1002 6:0:0");
    }

    private static void atMostFiveHundred() {
        TaskCores x = new TaskCores(1);
        for (int i = 1; i <= 500; i++) {
            Check.due("interrupt " + i, x.interrupt(1 + i % 2, 2, 1), i);
        }
        Check.due("interrupt 501", x.interrupt(1, 2, 1), -4);
        Check.due("interrupt 501 of no level", x.interrupt(0, 2, 1), -2);
        x.run(600);
        Check.due("interrupt 501 later", x.interrupt(1, 600, 1), -4);
        Check.due("switches", Check.switches(x), "2:0:1002 252:0:1001 502:0:0");
    }

    private static void overOneAnother() {
        TaskCores x = new TaskCores(1);
        Check.taskWith(x, 255, 0, false, 0, 9);
        x.activate(1, 0);
        x.interrupt(3, 5, 10);
        x.interrupt(9, 8, 2);
        x.interrupt(1, 6, 3);
        x.run(40);
        Check.due("switches", Check.switches(x), "0:0:1 5:0:1003 8:0:1009 10:0:1003 17:0:1001 20:0:1 25:0:0");
        Check.due("used", x.used(1), 10);
    }

    private static void oneAfterTheOtherOnOneLevel() {
        TaskCores x = new TaskCores(1);
        x.interrupt(4, 3, 5);
        x.interrupt(4, 1, 4);
        x.interrupt(4, 20, 1);
        x.run(40);
        Check.due("switches", Check.switches(x), "1:0:1004 10:0:0 20:0:1004 21:0:0");
    }

    private static void coreZeroAlone() {
        TaskCores x = new TaskCores(3);
        for (int core = 0; core < 3; core++) {
            Check.taskWith(x, 1, core, false, 0, 5);
            x.activate(core + 1, 0);
        }
        x.interrupt(15, 2, 3);
        x.run(20);
        Check.due("switches", Check.switches(x), "0:0:1 0:1:2 0:2:3 2:0:1015 5:0:1 6:1:0 6:2:0 9:0:0");
    }

    /** Task 1 would free the lock at 3, but it has no STEP before 7. */
    private static void noStepsMeanwhile() {
        TaskCores x = new TaskCores(2);
        Check.taskWith(x, 1, 0, false, 8, 1, 0, 2, 9, 1, 0, 1);
        Check.taskWith(x, 1, 1, false, 0, 1, 8, 1, 0, 1, 9, 1);
        x.activate(1, 0);
        x.activate(2, 0);
        x.interrupt(2, 3, 4);
        x.run(5);
        Check.due("spin(0, 1)", x.spin(0, 1), 1);
        Check.due("spin(1, 1)", x.spin(1, 1), -2);
        x.run(15);
        Check.due("switches", Check.switches(x), "0:0:1 0:1:2 3:0:1002 7:0:1 8:0:0 8:1:0");
        Check.due("used(2)", x.used(2), 8);
    }

    /** A task is chosen, though an interrupt is at hand: it is RUNNING, but uses no time. */
    private static void chosenMeanwhile() {
        TaskCores x = new TaskCores(1);
        Check.taskWith(x, 1, 0, false, 0, 2);
        Check.taskWith(x, 2, 0, false, 0, 2);
        x.activate(1, 1);
        x.activate(2, 3);
        x.interrupt(7, 0, 5);
        x.run(1);
        Check.due("at 1", x.state(1), 0);
        x.run(1);
        Check.due("at 2", x.state(1), 2);
        Check.due("used at 2", x.used(1), 0);
        x.run(2);
        Check.due("at 4", x.state(1), 1);
        Check.due("the higher one at 4", x.state(2), 2);
        x.run(16);
        Check.due("switches", Check.switches(x), "0:0:1007 5:0:2 8:0:1 11:0:0");
    }
}
