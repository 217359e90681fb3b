/** OFF, ON and the budget, as the terms of the document have them. */
public final class OffTest {
    public static void main(String[] args) {
        levelsUpToSeven();
        onInTime();
        onTooLate();
        budgetGoesOnMeanwhile();
        offComesLater();
        behindTheSteps();
        codeSeven();
        anotherOnePutsThemOn();
        eachOffHasItsBudget();
        endPutsThemOn();
        waitingWithOff();
        Check.end();
    }

    private static void levelsUpToSeven() {
        TaskCores x = new TaskCores(1);
        Check.taskWith(x, 1, 0, false, 12, 3, 0, 10, 13, 0, 0, 2);
        x.activate(1, 0);
        x.interrupt(7, 2, 2);
        x.interrupt(8, 5, 1);
        x.run(30);
        Check.due("codes", Check.codes(x), "9:1:4");
        Check.due("switches", Check.switches(x), "0:0:1 5:0:1008 6:0:1 12:0:1007 14:0:1 16:0:0");
    }

    private static TaskCores offFor(int micros, int budget) {
        TaskCores x = new TaskCores(1);
        Check.taskWith(x, 1, 0, false, 12, budget, 0, micros, 13, 0, 0, 5);
        x.activate(1, 0);
        return x;
    }

    /** OFF at 1 with a budget of 3, ON at 4. */
    private static void onInTime() {
        TaskCores x = offFor(3, 3);
        x.run(20);
        Check.due("codes", Check.codes(x), "");
    }

    /** Told at 4, in the run that reaches it, and once. */
    private static void onTooLate() {
        TaskCores x = offFor(4, 3);
        x.run(4);
        Check.due("codes at 4", Check.codes(x), "");
        x.run(1);
        Check.due("codes at 5", Check.codes(x), "9:1:4");
        x.run(20);
        Check.due("codes", Check.codes(x), "9:1:4");
    }

    /** ON would be due at 4, but an interrupt of level 9 is at hand from 3 to 8. */
    private static void budgetGoesOnMeanwhile() {
        TaskCores x = offFor(3, 3);
        x.interrupt(9, 3, 6);
        x.interrupt(1, 2, 1);
        x.run(30);
        Check.due("codes", Check.codes(x), "9:1:4");
        Check.due("switches", Check.switches(x), "0:0:1 3:0:1009 9:0:1 10:0:1001 11:0:1 16:0:0");
    }

    /** The interrupt is at hand before OFF can be done, so that OFF comes at 2. */
    private static void offComesLater() {
        TaskCores x = offFor(4, 3);
        x.interrupt(1, 1, 1);
        x.run(30);
        Check.due("codes", Check.codes(x), "9:1:5");
        Check.due("switches", Check.switches(x), "0:0:1 1:0:1001 2:0:1 11:0:0");
    }

    private static void behindTheSteps() {
        TaskCores x = new TaskCores(2);
        Check.taskWith(x, 1, 0, false, 12, 3, 0, 3, 9, 1, 0, 5);
        Check.taskWith(x, 1, 1, false, 0, 3, 9, 1);
        x.activate(1, 0);
        x.activate(2, 0);
        x.run(6);
        Check.due("codes", Check.codes(x), "6:1:4 6:2:4 9:1:4");
    }

    private static void codeSeven() {
        TaskCores x = new TaskCores(2);
        Check.taskWith(x, 1, 0, false, 13, 0, 12, 9, 12, 1, 0, 3, 13, 0, 13, 0);
        Check.taskWith(x, 1, 1, false, 0, 1, 12, 9, 13, 0, 0, 1);
        x.activate(1, 0);
        x.activate(2, 0);
        x.run(10);
        Check.due("codes", Check.codes(x), "7:1:1 7:1:1 7:2:2 7:2:2 7:1:4");
    }

    /** Task 2 puts ON what task 1 put OFF: task 1 holds nothing at its end, and no budget is over. */
    private static void anotherOnePutsThemOn() {
        TaskCores x = new TaskCores(1);
        Check.taskWith(x, 1, 0, false, 12, 4, 0, 9);
        Check.taskWith(x, 5, 0, false, 12, 1, 13, 0, 0, 1);
        x.activate(1, 0);
        x.activate(2, 2);
        x.interrupt(5, 2, 2);
        x.run(30);
        Check.due("codes", Check.codes(x), "7:2:3");
        Check.due("switches", Check.switches(x), "0:0:1 2:0:2 3:0:1005 5:0:2 6:0:1 14:0:0");
    }

    private static void eachOffHasItsBudget() {
        TaskCores x = new TaskCores(1);
        Check.taskWith(x, 1, 0, false, 12, 5, 0, 2, 13, 0, 12, 4, 0, 9, 13, 0);
        x.activate(1, 0);
        x.run(30);
        Check.due("codes", Check.codes(x), "9:1:7");
    }

    /** Task 1 ends at 4 with OFF: code 3, and the interrupt is at hand in that microsecond. */
    private static void endPutsThemOn() {
        TaskCores x = new TaskCores(1);
        Check.taskWith(x, 2, 0, false, 12, 50, 0, 3);
        Check.taskWith(x, 1, 0, false, 0, 1);
        x.activate(1, 0);
        x.activate(2, 1);
        x.interrupt(3, 2, 2);
        x.run(60);
        Check.due("codes", Check.codes(x), "3:1:4");
        Check.due("switches", Check.switches(x), "0:0:1 4:0:1003 6:0:2 8:0:0");
    }

    /** OFF does not keep from WAIT; they stay OFF, and the budget is told with the one that waits. */
    private static void waitingWithOff() {
        TaskCores x = new TaskCores(1);
        Check.taskWith(x, 1, 0, true, 12, 6, 3, 1, 13, 0, 0, 1);
        Check.taskWith(x, 1, 0, false, 0, 4);
        x.activate(1, 0);
        x.activate(2, 2);
        x.interrupt(6, 3, 1);
        x.run(10);
        Check.due("codes", Check.codes(x), "9:1:7");
        x.event(1, 1);
        x.run(10);
        Check.due("switches", Check.switches(x), "0:0:1 1:0:0 2:0:2 7:0:0 10:0:1006 11:0:1 12:0:0");
    }
}
