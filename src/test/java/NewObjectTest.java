/** Promise 1: a new object. */
public final class NewObjectTest {
    public static void main(String[] args) {
        for (int cores = 1; cores <= 8; cores++) {
            hasCores(cores, cores);
        }
        int[] others = {0, -1, 9, 100, Integer.MIN_VALUE, Integer.MAX_VALUE};
        for (int cores : others) {
            hasCores(cores, 1);
        }
        Check.end();
    }

    private static void hasCores(int told, int due) {
        TaskCores x = new TaskCores(told);
        String name = "new TaskCores(" + told + "): ";
        Check.due(name + "now", x.now(), 0);
        Check.due(name + "state(1)", x.state(1), -1);
        Check.due(name + "how many codes", x.code(-1, 0), 0);
        Check.due(name + "how many switches", x.order(-1, 0), 0);
        for (int core = 0; core < due; core++) {
            Check.due(name + "spin(" + core + ", 1)", x.spin(core, 1), 0);
            Check.due(name + "running(" + core + ", 0)", x.running(core, 0), -2);
        }
        Check.due(name + "spin(" + due + ", 1)", x.spin(due, 1), -1000);
        Check.due(name + "task on the last core", x.task(1, due - 1, 1, false), 1);
        Check.due(name + "task on core " + due, x.task(1, due, 1, false), -1);
    }
}
