/** Promise 15: order; and what a SWITCH is. */
public final class OrderTest {
    public static void main(String[] args) {
        theFirstAndTheLast();
        howManyThereWere();
        thereIsNone();
        noneYet();
        minusOneWithAnotherWhat();
        noSuchWhat();
        theFirstThatFits();
        byTimeThenCore();
        zeroBeforeTheFirst();
        sameWhoIsNoSwitch();
        Check.end();
    }

    /** Task 1 on core 1 from 3 to 9. */
    private static TaskCores twoSwitches() {
        TaskCores x = new TaskCores(2);
        Check.task(x, 1, 1, "RUN 6");
        x.activate(1, 3);
        x.run(30);
        return x;
    }

    /** "The i-th SWITCH ..: what = 0 the time, 1 the core, 2 WHO". */
    private static void theFirstAndTheLast() {
        TaskCores x = twoSwitches();
        int[][] due = {{3, 1, 1}, {10, 1, 0}};
        for (int i = 0; i < 2; i++) {
            for (int what = 0; what < 3; what++) {
                Check.due("order(" + i + ", " + what + ")", x.order(i, what), due[i][what]);
            }
        }
    }

    /** "i = -1 with what = 0: how many there were". */
    private static void howManyThereWere() {
        Check.due("none", new TaskCores(1).order(-1, 0), 0);
        TaskCores x = twoSwitches();
        Check.due("two", x.order(-1, 0), 2);
        x.run(20);
        Check.due("and no more", x.order(-1, 0), 2);
    }

    /** "-1 there is none". */
    private static void thereIsNone() {
        TaskCores x = twoSwitches();
        int[] unknown = {2, 3, 511, 512, 99999, 100000, 400000, -2, -3, Integer.MIN_VALUE, Integer.MAX_VALUE};
        for (int i : unknown) {
            for (int what = 0; what < 3; what++) {
                Check.due("order(" + i + ", " + what + ")", x.order(i, what), -1);
            }
        }
    }

    private static void noneYet() {
        TaskCores x = new TaskCores(1);
        for (int what = -1; what <= 3; what++) {
            Check.due("order(0, " + what + ")", x.order(0, what), -1);
        }
    }

    /** "(so with i = -1 and another what)". */
    private static void minusOneWithAnotherWhat() {
        TaskCores x = twoSwitches();
        int[] others = {1, 2, 3, -1, Integer.MIN_VALUE, Integer.MAX_VALUE};
        for (int what : others) {
            Check.due("order(-1, " + what + ")", x.order(-1, what), -1);
            Check.due("none at all: order(-1, " + what + ")", new TaskCores(1).order(-1, what), -1);
        }
    }

    /** "-2 no such what". */
    private static void noSuchWhat() {
        TaskCores x = twoSwitches();
        int[] unknown = {-1, 3, 4, -2, Integer.MIN_VALUE, Integer.MAX_VALUE};
        for (int what : unknown) {
            Check.due("order(0, " + what + ")", x.order(0, what), -2);
            Check.due("order(1, " + what + ")", x.order(1, what), -2);
        }
    }

    /** "REFUSALS .. the first that fits": none, and no such what. */
    private static void theFirstThatFits() {
        TaskCores x = twoSwitches();
        Check.due("order(2, 3)", x.order(2, 3), -1);
        Check.due("order(2, -1)", x.order(2, -1), -1);
        Check.due("order(-2, 3)", x.order(-2, 3), -1);
        Check.due("order(-1, 3)", x.order(-1, 3), -1);
    }

    /** "by time, then core", whatever the tasks' numbers and the order of telling are. */
    private static void byTimeThenCore() {
        TaskCores x = new TaskCores(3);
        Check.task(x, 1, 2, "RUN 1");
        Check.task(x, 1, 1, "RUN 3");
        Check.task(x, 1, 0, "RUN 1");
        x.activate(1, 1);
        x.activate(2, 0);
        x.activate(3, 1);
        x.run(20);
        Check.due("switches", Check.switches(x), "0:1:2 1:0:3 1:2:1 3:0:0 3:2:0 4:1:0");
    }

    /** "(0 before the first)": one that runs in microsecond 0 is a SWITCH, an idle core is none. */
    private static void zeroBeforeTheFirst() {
        TaskCores x = new TaskCores(3);
        Check.task(x, 1, 1, "");
        x.activate(1, 0);
        x.interrupt(1, 0, 2);
        Check.due("run(1)", x.run(1), 2);
        Check.due("switches", Check.switches(x), "0:0:1001 0:1:1");
        Check.due("run(1)", x.run(1), 1);
        Check.due("run(1)", x.run(1), 1);
        Check.due("all", Check.switches(x), "0:0:1001 0:1:1 1:1:0 2:0:0");
    }

    /** A task that is activated anew, or an interrupt behind one of its level, is no SWITCH. */
    private static void sameWhoIsNoSwitch() {
        TaskCores x = new TaskCores(1);
        Check.task(x, 1, 0, 2, "RUN 2");
        x.activate(1, 0);
        x.activate(1, 1);
        x.interrupt(5, 8, 2);
        x.interrupt(5, 9, 2);
        x.interrupt(6, 12, 1);
        x.run(20);
        Check.due("switches", Check.switches(x), "0:0:1 6:0:0 8:0:1005 12:0:1006 13:0:0");
    }
}
