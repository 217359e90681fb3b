/** Promise 17: holder; and GET, FREE, CEILING and HEIGHT. */
public final class HolderTest {
    public static void main(String[] args) {
        refusals();
        lastGotFirstFreed();
        heldByAnother();
        heightOfSeveral();
        ceilingOfAnotherCore();
        heldByOneThatWasPassed();
        endFreesAll();
        Check.end();
    }

    private static void refusals() {
        TaskCores x = new TaskCores(1);
        Check.due("holder(1)", x.holder(1), 0);
        Check.due("holder(32)", x.holder(32), 0);
        Check.due("holder(0)", x.holder(0), -2);
        Check.due("holder(33)", x.holder(33), -2);
        Check.due("holder(-1)", x.holder(-1), -2);
        Check.due("holder(MAX_VALUE)", x.holder(Integer.MAX_VALUE), -2);
        Check.due("holder(MIN_VALUE)", x.holder(Integer.MIN_VALUE), -2);
    }

    private static void lastGotFirstFreed() {
        TaskCores x = new TaskCores(1);
        Check.taskWith(x, 1, 0, false, 7, 1, 6, 1, 6, 2, 6, 1, 7, 1, 0, 2, 7, 2, 0, 2, 7, 2, 7, 1, 0, 1);
        x.activate(1, 0);
        x.run(2);
        Check.due("codes at 2: not held, held by itself, not the last", Check.codes(x), "4:1:1 4:1:1 4:1:1");
        Check.due("holder(1) at 2", x.holder(1), 1);
        Check.due("holder(2) at 2", x.holder(2), 1);
        x.run(2);
        Check.due("holder(1) at 4", x.holder(1), 1);
        Check.due("holder(2) at 4", x.holder(2), 0);
        x.run(2);
        Check.due("holder(1) at 6", x.holder(1), 0);
        x.run(10);
        Check.due("codes", Check.codes(x), "4:1:1 4:1:1 4:1:1 4:1:5");
    }

    /** Across cores: GET of what another one holds is passed over, and so is its FREE. */
    private static void heldByAnother() {
        TaskCores x = new TaskCores(2);
        Check.taskWith(x, 1, 0, false, 6, 9, 0, 5, 7, 9);
        Check.taskWith(x, 1, 1, false, 0, 2, 6, 9, 0, 1, 7, 9, 0, 5, 6, 9, 0, 1, 7, 9);
        x.activate(1, 0);
        x.activate(2, 0);
        x.run(5);
        Check.due("codes at 5", Check.codes(x), "4:2:3 4:2:4");
        Check.due("holder(9) at 5", x.holder(9), 1);
        x.run(5);
        Check.due("holder(9) at 10", x.holder(9), 2);
        x.run(10);
        Check.due("codes", Check.codes(x), "4:2:3 4:2:4");
        Check.due("holder(9)", x.holder(9), 0);
    }

    /** With 1 (CEILING 4) and 2 (CEILING 8) HEIGHT is 8 from 1 on, 4 from 3 on, 1 from 5 on. */
    private static void heightOfSeveral() {
        TaskCores x = new TaskCores(1);
        Check.taskWith(x, 1, 0, false, 6, 1, 6, 2, 0, 2, 7, 2, 0, 2, 7, 1, 0, 2);
        Check.taskWith(x, 4, 0, false, 6, 1, 7, 1);
        Check.taskWith(x, 8, 0, false, 6, 2, 7, 2);
        Check.taskWith(x, 6, 0, false, 0, 1);
        x.activate(1, 0);
        x.activate(2, 2);
        x.activate(3, 2);
        x.activate(4, 2);
        x.run(20);
        Check.due("switches", Check.switches(x), "0:0:1 3:0:3 4:0:4 6:0:1 8:0:2 9:0:1 11:0:0");
        Check.due("codes", Check.codes(x), "");
    }

    /** A task of another core raises the CEILING; a task of the same HEIGHT does not come between. */
    private static void ceilingOfAnotherCore() {
        TaskCores x = new TaskCores(2);
        Check.taskWith(x, 1, 0, false, 6, 3, 0, 4, 7, 3, 0, 1);
        Check.taskWith(x, 7, 1, false, 6, 3);
        Check.taskWith(x, 7, 0, false, 0, 1);
        Check.taskWith(x, 8, 0, false, 0, 1);
        x.activate(1, 0);
        x.activate(3, 2);
        x.activate(4, 3);
        x.run(20);
        Check.due("switches", Check.switches(x), "0:0:1 3:0:4 5:0:1 7:0:3 9:0:1 10:0:0");
    }

    /** Task 1 is READY with HEIGHT 6; task 2 of rank 6, with a later TURN, does not come before it. */
    private static void heldByOneThatWasPassed() {
        TaskCores x = new TaskCores(1);
        Check.taskWith(x, 1, 0, false, 6, 1, 0, 4, 7, 1);
        Check.taskWith(x, 6, 0, false, 6, 1, 7, 1);
        Check.taskWith(x, 9, 0, false, 0, 2);
        x.activate(1, 0);
        x.activate(3, 2);
        x.activate(2, 3);
        x.run(20);
        Check.due("switches", Check.switches(x), "0:0:1 2:0:3 5:0:1 8:0:2 9:0:0");
        Check.due("codes", Check.codes(x), "");
    }

    private static void endFreesAll() {
        TaskCores x = new TaskCores(1);
        Check.taskWith(x, 1, 0, false, 6, 1, 6, 32, 0, 2);
        Check.taskWith(x, 1, 0, false, 6, 32, 6, 1, 7, 1, 7, 32, 0, 1);
        x.activate(1, 0);
        x.run(3);
        Check.due("holder(1) at 3", x.holder(1), 1);
        Check.due("holder(32) at 3", x.holder(32), 1);
        x.run(3);
        Check.due("holder(1) at 6", x.holder(1), 0);
        Check.due("holder(32) at 6", x.holder(32), 0);
        x.activate(2, 6);
        x.run(5);
        Check.due("codes", Check.codes(x), "3:1:3");
    }
}
