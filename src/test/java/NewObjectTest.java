/** Promise 1: a new object. */
public final class NewObjectTest {
    public static void main(String[] args) {
        oneToEightCores();
        oneCoreForAnyOtherNumber();
        noTasks();
        timeZero();
        nothingHasHappened();
        eachObjectIsItsOwn();
        Check.end();
    }

    /** "So many cores (1 .. 8 ..": the last one is there, the one behind it is not. */
    private static void oneToEightCores() {
        for (int cores = 1; cores <= 8; cores++) {
            hasCores(cores, cores);
        }
    }

    /** ".. 1 for any other number)". */
    private static void oneCoreForAnyOtherNumber() {
        int[] others = {0, 9, -1, 10, 16, 100, 257, Integer.MIN_VALUE, Integer.MIN_VALUE + 1, Integer.MAX_VALUE};
        for (int cores : others) {
            hasCores(cores, 1);
        }
    }

    private static void hasCores(int told, int due) {
        TaskCores x = new TaskCores(told);
        String name = "new TaskCores(" + told + "): ";
        Check.due(name + "task on core -1", x.task(1, -1, 1, false), -1);
        for (int core = 0; core < due; core++) {
            Check.due(name + "task on core " + core, x.task(1, core, 1, false), core + 1);
            Check.due(name + "spin on core " + core, x.spin(core, 1), 0);
        }
        Check.due(name + "task on core " + due, x.task(1, due, 1, false), -1);
        Check.due(name + "spin on core " + due, x.spin(due, 1), -1000);
        x.activate(due, 0);
        Check.due(name + "a switch on the last core", x.run(1), 1);
        Check.due(name + "who runs on the last core", x.running(due - 1, 0), due);
        Check.due(name + "who runs on core " + due, x.running(due, 0), -1);
    }

    /** ".. no tasks ..": each call that takes a task finds none. */
    private static void noTasks() {
        TaskCores x = new TaskCores(8);
        Check.due("part(1, 0, 1)", x.part(1, 0, 1), -1);
        Check.due("manner(1, true)", x.manner(1, true), -1);
        Check.due("activate(1, 0)", x.activate(1, 0), -1);
        Check.due("used(1)", x.used(1), -1);
        Check.due("state(1)", x.state(1), -1);
        Check.due("event(1, 1)", x.event(1, 1), -1);
        Check.due("events(1)", x.events(1), -1);
    }

    /** ".. time 0". */
    private static void timeZero() {
        TaskCores x = new TaskCores(3);
        Check.due("now()", x.now(), 0);
        Check.due("running(0, 0)", x.running(0, 0), -2);
        Check.due("no time went by: a task may be told", x.task(0, 0, 1, false), 1);
        Check.due("0 has not gone by: activate(1, 0)", x.activate(1, 0), 1);
        Check.due("all of the time is to come: run(50000)", x.run(50000), 2);
    }

    private static void nothingHasHappened() {
        TaskCores x = new TaskCores(2);
        Check.due("how many codes", x.code(-1, 0), 0);
        Check.due("how many switches", x.order(-1, 0), 0);
        for (int resource = 1; resource <= 32; resource++) {
            Check.due("holder(" + resource + ")", x.holder(resource), 0);
        }
        for (int lock = 1; lock <= 16; lock++) {
            Check.due("spin(0, " + lock + ")", x.spin(0, lock), 0);
            Check.due("spin(1, " + lock + ")", x.spin(1, lock), 0);
        }
    }

    private static void eachObjectIsItsOwn() {
        TaskCores busy = new TaskCores(2);
        Check.task(busy, 1, 0, "GET 1, LOCK 1, UNLOCK 2, RUN 5");
        busy.activate(1, 0);
        busy.run(3);
        TaskCores other = new TaskCores(2);
        Check.due("its time", other.now(), 0);
        Check.due("its tasks", other.state(1), -1);
        Check.due("its codes", other.code(-1, 0), 0);
        Check.due("its switches", other.order(-1, 0), 0);
        Check.due("its resource", other.holder(1), 0);
        Check.due("its lock", other.spin(0, 1), 0);
        Check.due("time of the first one", busy.now(), 3);
        Check.due("resource of the first one", busy.holder(1), 1);
    }
}
