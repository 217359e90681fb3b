/** Terms: the parts OFF and ON, the levels that are OFF, the budget and code 9. */
public final class OffTest {
    public static void main(String[] args) {
        levelsUpToSeven();
        eachLevel();
        offAgain();
        onWithoutOff();
        onOtherCores();
        offBeforeTheInterruptComes();
        interruptBeforeOff();
        noStepBehindOnWithAnInterruptAtHand();
        onInTime();
        onTooLate();
        budgetOfOne();
        theGreatestBudget();
        endInTime();
        budgetGoesOnMeanwhile();
        behindTheSteps();
        eachOffHasItsBudget();
        offAgainDoesNotChangeTheBudget();
        ofTheTaskThatPutThemOff();
        Check.end();
    }

    /** "interrupts of levels up to 7 are OFF": 8 comes, 7 waits until ON. */
    private static void levelsUpToSeven() {
        TaskCores x = new TaskCores(1);
        Check.task(x, 1, 0, "OFF 50, RUN 10, ON, RUN 2");
        x.activate(1, 0);
        x.interrupt(7, 2, 2);
        x.interrupt(8, 5, 1);
        x.run(30);
        Check.due("codes", Check.codes(x), "");
        Check.due("switches", Check.switches(x), "0:0:1 5:0:1008 6:0:1 12:0:1007 14:0:1 16:0:0");
    }

    private static void eachLevel() {
        for (int level = 1; level <= 15; level++) {
            TaskCores x = new TaskCores(1);
            Check.task(x, 1, 0, "OFF 50, RUN 5, ON, RUN 1");
            x.activate(1, 0);
            x.interrupt(level, 3, 1);
            x.run(20);
            String due = level <= 7 ? "0:0:1 6:0:# 7:0:1 8:0:0" : "0:0:1 3:0:# 4:0:1 8:0:0";
            Check.due("level " + level, Check.switches(x), due.replace("#", "" + (1000 + level)));
        }
    }

    /** "OFF: code 7 at once if they are OFF". */
    private static void offAgain() {
        TaskCores x = new TaskCores(1);
        Check.task(x, 1, 0, "OFF 9, OFF 9, RUN 1, OFF 9, ON, OFF 9, ON, RUN 1");
        x.activate(1, 0);
        x.run(9);
        Check.due("codes", Check.codes(x), "7:1:1 7:1:2");
        Check.due("used(1)", x.used(1), 3);
    }

    /** "ON: code 7 if they are not OFF". */
    private static void onWithoutOff() {
        TaskCores x = new TaskCores(1);
        Check.task(x, 1, 0, "ON, OFF 9, ON, ON, RUN 1");
        x.activate(1, 0);
        x.run(9);
        Check.due("codes", Check.codes(x), "7:1:1 7:1:1");
        Check.due("used(1)", x.used(1), 2);
    }

    /** "(core 0 only; on other cores OFF and ON are code 7)": whether they are OFF or not. */
    private static void onOtherCores() {
        TaskCores x = new TaskCores(8);
        Check.task(x, 1, 0, "RUN 4, OFF 50, RUN 10, ON");
        Check.task(x, 1, 1, "OFF 9, ON, RUN 9, OFF 9, ON, RUN 1");
        Check.task(x, 1, 7, "ON, RUN 1");
        for (int task = 1; task <= 3; task++) {
            x.activate(task, 0);
        }
        x.interrupt(7, 2, 1);
        x.interrupt(7, 12, 1);
        x.run(30);
        Check.due("codes", Check.codes(x), "7:2:1 7:2:1 7:3:1 7:2:10 7:2:10");
        Check.due("they were ON at 2, and OFF at 12", Check.switches(x),
            "0:0:1 0:1:2 0:7:3 2:0:1007 2:7:0 3:0:1 11:1:0 16:0:1007 17:0:0");
    }

    /** OFF in the microsecond before the interrupt comes: it waits. */
    private static void offBeforeTheInterruptComes() {
        TaskCores x = new TaskCores(1);
        Check.task(x, 1, 0, "RUN 1, OFF 50, RUN 3, ON, RUN 1");
        x.activate(1, 0);
        x.interrupt(1, 3, 1);
        x.run(20);
        Check.due("switches", Check.switches(x), "0:0:1 5:0:1001 6:0:1 7:0:0");
    }

    /** The interrupt comes in the microsecond of OFF: core 0 has no STEP, it is through before. */
    private static void interruptBeforeOff() {
        TaskCores x = new TaskCores(1);
        Check.task(x, 1, 0, "RUN 1, OFF 3, RUN 4, ON, RUN 1");
        x.activate(1, 0);
        x.interrupt(1, 2, 2);
        x.run(20);
        Check.due("switches", Check.switches(x), "0:0:1 2:0:1001 4:0:1 9:0:0");
        Check.due("OFF came at 4", Check.codes(x), "9:1:7");
    }

    /** ON at 3 lets the interrupt be at hand: the parts behind it are done at 7 and not before. */
    private static void noStepBehindOnWithAnInterruptAtHand() {
        TaskCores x = new TaskCores(2);
        Check.task(x, 1, 0, "OFF 9, RUN 2, ON, GET 1, ACTIVATE 2, RUN 1, FREE 1");
        Check.task(x, 1, 1, "RUN 1");
        x.activate(1, 0);
        x.interrupt(3, 2, 4);
        x.run(4);
        Check.due("holder(1) at 4", x.holder(1), 0);
        Check.due("state(2) at 4", x.state(2), 0);
        x.run(16);
        Check.due("switches", Check.switches(x), "0:0:1 3:0:1003 7:0:1 7:1:2 8:0:0 9:1:0");
        Check.due("codes", Check.codes(x), "");
    }

    private static TaskCores offFor(int micros, int budget) {
        TaskCores x = new TaskCores(1);
        Check.task(x, 1, 0, "OFF " + budget + ", RUN " + micros + ", ON, RUN 5");
        x.activate(1, 0);
        return x;
    }

    /** "and are not ON by then": OFF at 1 with a budget of 3, ON at 4 is just in time. */
    private static void onInTime() {
        TaskCores x = offFor(3, 3);
        x.run(20);
        Check.due("codes", Check.codes(x), "");
        TaskCores y = offFor(2, 3);
        y.run(20);
        Check.due("codes, earlier", Check.codes(y), "");
    }

    /** "code 9 is told with the task that put them OFF, at that time, once". */
    private static void onTooLate() {
        TaskCores x = offFor(4, 3);
        x.run(4);
        Check.due("codes at 4", Check.codes(x), "");
        x.run(1);
        Check.due("codes at 5", Check.codes(x), "9:1:4");
        x.run(20);
        Check.due("codes", Check.codes(x), "9:1:4");
        TaskCores y = offFor(40, 3);
        y.run(60);
        Check.due("codes of a long one", Check.codes(y), "9:1:4");
    }

    private static void budgetOfOne() {
        TaskCores inTime = offFor(1, 1);
        inTime.run(20);
        Check.due("RUN 1", Check.codes(inTime), "");
        TaskCores tooLate = offFor(2, 1);
        tooLate.run(20);
        Check.due("RUN 2", Check.codes(tooLate), "9:1:2");
    }

    /** 49998 is over in the last microsecond; 49999 and more never are. */
    private static void theGreatestBudget() {
        int[] budgets = {49997, 49998, 49999, 50000};
        String[] due = {"9:1:49998", "9:1:49999", "", ""};
        for (int i = 0; i < budgets.length; i++) {
            TaskCores x = offFor(50000, budgets[i]);
            x.run(50000);
            Check.due("budget " + budgets[i], Check.codes(x), due[i]);
        }
    }

    /** The end at 4 puts them ON, which is in time; but code 3 is told. */
    private static void endInTime() {
        TaskCores x = new TaskCores(1);
        Check.task(x, 1, 0, "OFF 3, RUN 3, END");
        x.activate(1, 0);
        x.run(20);
        Check.due("codes", Check.codes(x), "3:1:4");
    }

    /** ON would be due at 4, but an interrupt of level 9 is at hand from 3 to 8. */
    private static void budgetGoesOnMeanwhile() {
        TaskCores x = offFor(3, 3);
        x.interrupt(9, 3, 6);
        x.interrupt(1, 2, 1);
        x.run(30);
        Check.due("codes", Check.codes(x), "9:1:4");
        Check.due("switches", Check.switches(x), "0:0:1 3:0:1009 9:0:1 10:0:1001 11:0:1 16:0:0");
    }

    /** "behind the STEPS of that microsecond", those of all cores. */
    private static void behindTheSteps() {
        TaskCores x = new TaskCores(2);
        Check.task(x, 1, 0, "OFF 3, RUN 3, UNLOCK 1, RUN 5");
        Check.task(x, 1, 1, "RUN 3, UNLOCK 1");
        x.activate(1, 0);
        x.activate(2, 0);
        x.run(6);
        Check.due("codes", Check.codes(x), "6:1:4 6:2:4 9:1:4");
    }

    /** OFF at 1 and at 3: the first one is ON in time, the second one's budget is over at 7. */
    private static void eachOffHasItsBudget() {
        TaskCores x = new TaskCores(1);
        Check.task(x, 1, 0, "OFF 5, RUN 2, ON, OFF 4, RUN 9, ON");
        x.activate(1, 0);
        x.run(30);
        Check.due("codes", Check.codes(x), "9:1:7");
        TaskCores y = new TaskCores(1);
        Check.task(y, 1, 0, "OFF 2, RUN 4, ON, OFF 2, RUN 4, ON");
        y.activate(1, 0);
        y.run(30);
        Check.due("codes of two", Check.codes(y), "9:1:3 9:1:7");
    }

    private static void offAgainDoesNotChangeTheBudget() {
        TaskCores x = new TaskCores(1);
        Check.task(x, 1, 0, "OFF 5, RUN 2, OFF 1, OFF 50, RUN 9, ON");
        x.activate(1, 0);
        x.run(30);
        Check.due("codes", Check.codes(x), "7:1:3 7:1:3 9:1:6");
    }

    /** "told with the task that put them OFF", though task 2 runs by then. */
    private static void ofTheTaskThatPutThemOff() {
        TaskCores x = new TaskCores(1);
        Check.task(x, 1, 0, "OFF 4, RUN 3, ON");
        Check.task(x, 5, 0, "RUN 6");
        x.activate(1, 0);
        x.activate(2, 2);
        x.run(30);
        Check.due("codes", Check.codes(x), "9:1:5");
    }
}
