/** Promise 2: task. */
public final class TaskTest {
    public static void main(String[] args) {
        numbersAndRanges();
        atMostHundred();
        notAfterTimeWentBy();
        Check.end();
    }

    private static void numbersAndRanges() {
        TaskCores x = new TaskCores(2);
        Check.due("task(0, 0, 1, false)", x.task(0, 0, 1, false), 1);
        Check.due("task(255, 1, 100, false)", x.task(255, 1, 100, false), 2);
        Check.due("task(7, 1, 1, true)", x.task(7, 1, 1, true), 3);
        Check.due("core -1", x.task(7, -1, 1, false), -1);
        Check.due("core 2", x.task(7, 2, 1, false), -1);
        Check.due("core MIN_VALUE", x.task(7, Integer.MIN_VALUE, 1, false), -1);
        Check.due("core 2 with a wrong rank", x.task(-1, 2, 0, false), -1);
        Check.due("rank -1", x.task(-1, 0, 1, false), -2);
        Check.due("rank 256", x.task(256, 0, 1, false), -2);
        Check.due("activations 0", x.task(7, 0, 0, false), -2);
        Check.due("activations -1", x.task(7, 0, -1, false), -2);
        Check.due("activations 101", x.task(7, 0, 101, false), -2);
        Check.due("EXTENDED with 2", x.task(7, 0, 2, true), -2);
        Check.due("EXTENDED with 0", x.task(7, 0, 0, true), -2);
        Check.due("state(4) before there is one", x.state(4), -1);
        Check.due("the next number", x.task(7, 0, 2, false), 4);
        Check.due("its state", x.state(4), 0);
        Check.due("its events", x.events(4), 0);
        Check.due("its use", x.used(4), 0);
    }

    private static void atMostHundred() {
        TaskCores x = new TaskCores(1);
        for (int i = 1; i <= 100; i++) {
            Check.due("task " + i, x.task(i, 0, 1, false), i);
        }
        Check.due("task 101", x.task(1, 0, 1, false), -4);
        Check.due("task 101 on no core", x.task(1, 1, 1, false), -1);
        Check.due("task 101 of no rank", x.task(256, 0, 1, false), -2);
        Check.due("state(100)", x.state(100), 0);
        Check.due("state(101)", x.state(101), -1);
        Check.due("part of task 100", x.part(100, 1, 100), 1);
        x.activate(100, 0);
        x.run(1);
        Check.due("task 100 runs", x.running(0, 0), 100);
        Check.due("task 101 after time went by", x.task(1, 0, 1, false), -3);
    }

    private static void notAfterTimeWentBy() {
        TaskCores x = new TaskCores(1);
        x.run(0);
        Check.due("after run(0)", x.task(1, 0, 1, false), 1);
        x.run(1);
        Check.due("after run(1)", x.task(1, 0, 1, false), -3);
        Check.due("after run(1), no core", x.task(1, 1, 1, false), -1);
        Check.due("after run(1), no rank", x.task(-1, 0, 1, false), -2);
        Check.due("state(2)", x.state(2), -1);
    }
}
