import java.util.function.Consumer;

/**
 * "REFUSALS change nothing": two objects are told and asked the same, and one of them refuses calls
 * in between; behind a run both answer all questions alike.
 */
public final class RefusedTest {
    private static final int CORES = 2;
    private static final int TASKS = 4;

    public static void main(String[] args) {
        between("task", RefusedTest::tasks, x -> Check.due("task", x.task(9, 0, 1, false), -3));
        between("part", RefusedTest::parts, RefusedTest::partsTooLate);
        between("manner", RefusedTest::manners, RefusedTest::mannersTooLate);
        between("activate", RefusedTest::activations, RefusedTest::activationsTooLate);
        between("interrupt", RefusedTest::interrupts, RefusedTest::interruptsTooLate);
        between("run", RefusedTest::runs, RefusedTest::runsTooLong);
        between("event", RefusedTest::events, RefusedTest::eventsInTheMiddle);
        between("questions", RefusedTest::questions, RefusedTest::questions);
        Check.end();
    }

    /** Each call may show in this scene, were it not refused. */
    private static TaskCores scene() {
        TaskCores x = new TaskCores(CORES);
        Check.task(x, 3, 0, 2, "GET 1, RUN 6, FREE 1, OFF 3, RUN 5, ON, RUN 2");
        Check.task(x, 5, 0, "RUN 2, LOCK 1, RUN 2, UNLOCK 1, SET 3:1");
        Check.extended(x, 4, 1, "LOCK 1, RUN 3, UNLOCK 1, WAIT 1, CLEAR 1, RUN 2, WAIT 2, RUN 1");
        Check.task(x, 4, 1, "RUN 2, GET 2, RUN 30");
        x.manner(4, false);
        x.activate(1, 0);
        x.activate(3, 1);
        x.activate(2, 4);
        x.activate(4, 6);
        x.interrupt(6, 5, 2);
        x.interrupt(9, 13, 2);
        return x;
    }

    private static void between(String name, Consumer<TaskCores> before, Consumer<TaskCores> later) {
        TaskCores plain = scene();
        TaskCores told = scene();
        before.accept(told);
        for (int i = 0; i < 5; i++) {
            Check.due(name + ": run(6)", told.run(6), plain.run(6));
            later.accept(told);
        }
        Check.due(name, Check.all(told, CORES, TASKS), Check.all(plain, CORES, TASKS));
        told.run(30);
        plain.run(30);
        Check.due(name + ", later", Check.all(told, CORES, TASKS), Check.all(plain, CORES, TASKS));
    }

    private static void tasks(TaskCores x) {
        Check.due("core", x.task(9, 2, 1, false), -1);
        Check.due("rank", x.task(256, 0, 1, false), -2);
        Check.due("activations", x.task(9, 0, 101, false), -2);
        Check.due("EXTENDED", x.task(9, 0, 2, true), -2);
    }

    private static void parts(TaskCores x) {
        Check.due("task", x.part(5, 0, 1), -1);
        Check.due("kind", x.part(1, 14, 1), -2);
        Check.due("RUN", x.part(1, 0, 0), -2);
        Check.due("GET", x.part(2, 6, 33), -2);
        Check.due("END", x.part(3, 11, 1), -2);
        Check.due("SET", x.part(4, 4, 3 * 65536), -2);
    }

    private static void partsTooLate(TaskCores x) {
        Check.due("RUN", x.part(1, 0, 9), -3);
        Check.due("GET", x.part(2, 6, 1), -3);
        Check.due("END", x.part(4, 11, 0), -3);
    }

    private static void manners(TaskCores x) {
        Check.due("task 0", x.manner(0, false), -1);
        Check.due("task 5", x.manner(5, true), -1);
    }

    private static void mannersTooLate(TaskCores x) {
        Check.due("task 1", x.manner(1, false), -3);
        Check.due("task 4", x.manner(4, true), -3);
    }

    private static void activations(TaskCores x) {
        Check.due("task", x.activate(5, 3), -1);
        Check.due("below 0", x.activate(2, -1), -2);
        Check.due("above 50000", x.activate(2, 50001), -2);
        Check.due("2 to the 32nd and 9", x.activate(2, 4294967305L), -2);
    }

    private static void activationsTooLate(TaskCores x) {
        Check.due("task", x.activate(0, x.now()), -1);
        Check.due("gone by", x.activate(2, x.now() - 1), -2);
        Check.due("0", x.activate(1, 0), -2);
    }

    private static void interrupts(TaskCores x) {
        Check.due("level 0", x.interrupt(0, 1, 1), -2);
        Check.due("level 16", x.interrupt(16, 1, 1), -2);
        Check.due("below 0", x.interrupt(9, -1, 1), -2);
        Check.due("above 50000", x.interrupt(9, 50001, 1), -2);
        Check.due("micros 0", x.interrupt(9, 1, 0), -2);
        Check.due("micros 10001", x.interrupt(9, 1, 10001), -2);
    }

    private static void interruptsTooLate(TaskCores x) {
        Check.due("gone by", x.interrupt(15, x.now() - 1, 3), -2);
        Check.due("micros", x.interrupt(15, x.now(), -1), -2);
    }

    private static void runs(TaskCores x) {
        Check.due("below 0", x.run(-1), -2);
        Check.due("above 50000", x.run(50001), -2);
    }

    private static void runsTooLong(TaskCores x) {
        Check.due("above 50000", x.run(50001 - x.now()), -2);
        Check.due("2 to the 32nd and 1", x.run(4294967297L), -2);
    }

    private static void events(TaskCores x) {
        Check.due("task", x.event(5, 1), -1);
        Check.due("0", x.event(3, 0), -2);
        Check.due("not EXTENDED", x.event(1, 1), -3);
        Check.due("SUSPENDED", x.event(3, 1), -3);
    }

    private static void eventsInTheMiddle(TaskCores x) {
        Check.due("0", x.event(3, 0), -2);
        Check.due("65536 and 3", x.event(3, 65539), -2);
        Check.due("below 0", x.event(3, -1), -2);
        Check.due("not EXTENDED", x.event(4, 3), -3);
    }

    private static void questions(TaskCores x) {
        Check.due("running", x.running(2, 0), -1);
        Check.due("running, not gone by", x.running(0, 50000), -2);
        Check.due("used", x.used(5), -1);
        Check.due("state", x.state(0), -1);
        Check.due("events", x.events(5), -1);
        Check.due("code", x.code(1000, 0), -1);
        Check.due("order", x.order(-2, 0), -1);
        Check.due("spin", x.spin(2, 1), -1000);
        Check.due("spin, no lock", x.spin(0, 17), -2000);
        Check.due("holder", x.holder(33), -2);
    }
}
