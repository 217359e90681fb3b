/** Promise 17: holder. */
public final class HolderTest {
    public static void main(String[] args) {
        noSuchResource();
        nobody();
        whoHoldsIt();
        allOfThem();
        Check.end();
    }

    /** "-2 there is no such resource": 1 .. 32 are. */
    private static void noSuchResource() {
        TaskCores x = new TaskCores(1);
        int[] unknown = {0, -1, 33, 34, Integer.MIN_VALUE, Integer.MAX_VALUE};
        for (int resource : unknown) {
            Check.due("holder(" + resource + ")", x.holder(resource), -2);
        }
        Check.due("holder(1)", x.holder(1), 0);
        Check.due("holder(32)", x.holder(32), 0);
    }

    /** "0 for nobody": at first, before GET, and behind FREE. */
    private static void nobody() {
        TaskCores x = new TaskCores(1);
        Check.task(x, 1, 0, "GET 32, RUN 2, FREE 32, RUN 2");
        x.activate(1, 0);
        Check.due("at first", x.holder(32), 0);
        x.run(1);
        Check.due("before GET", x.holder(32), 0);
        x.run(1);
        Check.due("behind GET", x.holder(32), 1);
        Check.due("another one", x.holder(31), 0);
        x.run(2);
        Check.due("behind FREE", x.holder(32), 0);
    }

    private static void whoHoldsIt() {
        TaskCores x = new TaskCores(8);
        Check.task(x, 1, 0, "GET 1, RUN 5");
        Check.task(x, 1, 7, "GET 32, RUN 5");
        x.activate(1, 0);
        x.activate(2, 0);
        x.run(3);
        Check.due("holder(1)", x.holder(1), 1);
        Check.due("holder(32)", x.holder(32), 2);
    }

    private static void allOfThem() {
        TaskCores x = new TaskCores(1);
        x.task(1, 0, 1, false);
        for (int resource = 1; resource <= 32; resource++) {
            x.part(1, 6, resource);
        }
        x.part(1, 0, 2);
        for (int resource = 32; resource >= 17; resource--) {
            x.part(1, 7, resource);
        }
        x.part(1, 0, 2);
        x.activate(1, 0);
        x.run(2);
        for (int resource = 1; resource <= 32; resource++) {
            Check.due("holder(" + resource + ") at 2", x.holder(resource), 1);
        }
        x.run(2);
        for (int resource = 1; resource <= 32; resource++) {
            Check.due("holder(" + resource + ") at 4", x.holder(resource), resource < 17 ? 1 : 0);
        }
        Check.due("codes", Check.codes(x), "");
    }
}
