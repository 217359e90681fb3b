/** Promise 15: order. */
public final class OrderTest {
    public static void main(String[] args) {
        answers();
        byTimeThenCore();
        sameWhoIsNoSwitch();
        Check.end();
    }

    private static void answers() {
        TaskCores x = new TaskCores(2);
        Check.due("order(-1, 0) at first", x.order(-1, 0), 0);
        Check.due("order(0, 0) at first", x.order(0, 0), -1);
        Check.due("order(0, 3) at first", x.order(0, 3), -1);
        Check.taskWith(x, 1, 1, false, 0, 6);
        x.activate(1, 3);
        x.run(30);
        Check.due("order(-1, 0)", x.order(-1, 0), 2);
        Check.due("order(0, 0)", x.order(0, 0), 3);
        Check.due("order(0, 1)", x.order(0, 1), 1);
        Check.due("order(0, 2)", x.order(0, 2), 1);
        Check.due("order(1, 0)", x.order(1, 0), 10);
        Check.due("order(1, 1)", x.order(1, 1), 1);
        Check.due("order(1, 2)", x.order(1, 2), 0);
        Check.due("order(1, 3)", x.order(1, 3), -2);
        Check.due("order(1, -1)", x.order(1, -1), -2);
        Check.due("order(1, MIN_VALUE)", x.order(1, Integer.MIN_VALUE), -2);
        Check.due("order(2, 0)", x.order(2, 0), -1);
        Check.due("order(2, 3)", x.order(2, 3), -1);
        Check.due("order(-1, 1)", x.order(-1, 1), -1);
        Check.due("order(-1, 2)", x.order(-1, 2), -1);
        Check.due("order(-1, 3)", x.order(-1, 3), -1);
        Check.due("order(-2, 0)", x.order(-2, 0), -1);
        Check.due("order(MIN_VALUE, 0)", x.order(Integer.MIN_VALUE, 0), -1);
        Check.due("order(MAX_VALUE, 0)", x.order(Integer.MAX_VALUE, 0), -1);
    }

    private static void byTimeThenCore() {
        TaskCores x = new TaskCores(3);
        Check.taskWith(x, 1, 2, false, 0, 1);
        Check.taskWith(x, 1, 1, false, 0, 3);
        Check.taskWith(x, 1, 0, false, 0, 1);
        x.activate(1, 1);
        x.activate(2, 0);
        x.activate(3, 1);
        x.run(20);
        Check.due("switches", Check.switches(x), "0:1:2 1:0:3 1:2:1 3:0:0 3:2:0 4:1:0");
    }

    /** A task that is activated anew, or an interrupt behind one of its level, is no SWITCH. */
    private static void sameWhoIsNoSwitch() {
        TaskCores x = new TaskCores(1);
        x.task(1, 0, 2, false);
        Check.addParts(x, 1, 0, 2);
        x.activate(1, 0);
        x.activate(1, 1);
        x.interrupt(5, 8, 2);
        x.interrupt(5, 9, 2);
        x.interrupt(6, 12, 1);
        x.run(20);
        Check.due("switches", Check.switches(x), "0:0:1 6:0:0 8:0:1005 12:0:1006 13:0:0");
    }
}
