/** Promise 6: interrupt; and in the terms which one is at hand. */
public final class InterruptTest {
    public static void main(String[] args) {
        itsNumberFromOneOn();
        levelIsNone();
        timeHasGoneBy();
        aboveFiftyThousand();
        microsAreNone();
        theLongestOne();
        fiveHundredWereTold();
        fullAndOutsideARange();
        refusedDoesNotCome();
        theHighestLevelIsAtHand();
        eachLevelOverTheOneBelow();
        ofOneLevelTheOneToldFirst();
        toCoreZeroAlone();
        noStepsMeanwhile();
        chosenMeanwhile();
        notFullStaysMeanwhile();
        Check.end();
    }

    /** "its number, from 1 on". */
    private static void itsNumberFromOneOn() {
        TaskCores x = new TaskCores(1);
        Check.due("the first", x.interrupt(3, 9, 1), 1);
        Check.due("the second", x.interrupt(3, 1, 1), 2);
        x.run(20);
        Check.due("the third, later", x.interrupt(1, 20, 1), 3);
    }

    /** "a level 1 .. 15", "-2 the level is none"; WHO is 1000 and the level. */
    private static void levelIsNone() {
        TaskCores x = new TaskCores(1);
        int[] none = {0, -1, 16, 17, Integer.MIN_VALUE, Integer.MAX_VALUE};
        for (int level : none) {
            Check.due("level " + level, x.interrupt(level, 0, 1), -2);
        }
        Check.due("level 1", x.interrupt(1, 0, 1), 1);
        Check.due("level 15", x.interrupt(15, 1, 1), 2);
        x.run(5);
        Check.due("switches", Check.switches(x), "0:0:1001 1:0:1015 2:0:0");
    }

    /** "-2 .. the time has gone by": now has not. */
    private static void timeHasGoneBy() {
        TaskCores x = new TaskCores(1);
        Check.due("at -1, when it is 0", x.interrupt(1, -1, 1), -2);
        Check.due("at MIN_VALUE", x.interrupt(1, Long.MIN_VALUE, 1), -2);
        Check.due("at 0, when it is 0", x.interrupt(2, 0, 1), 1);
        x.run(5);
        Check.due("at 0, when it is 5", x.interrupt(3, 0, 1), -2);
        Check.due("at 4, when it is 5", x.interrupt(3, 4, 1), -2);
        Check.due("at 5, when it is 5", x.interrupt(4, 5, 1), 2);
        x.run(5);
        Check.due("switches", Check.switches(x), "0:0:1002 1:0:0 5:0:1004 6:0:0");
    }

    /** "-2 .. is above 50000": what is told for 49999 comes, what is told for 50000 never does. */
    private static void aboveFiftyThousand() {
        TaskCores x = new TaskCores(1);
        long[] above = {50001, 50002, 4294967296L, 4294967297L, Long.MAX_VALUE};
        for (long at : above) {
            Check.due("at " + at, x.interrupt(1, at, 1), -2);
        }
        Check.due("at 50000", x.interrupt(1, 50000, 1), 1);
        Check.due("at 49999", x.interrupt(2, 49999, 1), 2);
        x.run(50000);
        Check.due("at 49999, when it is 50000", x.interrupt(1, 49999, 1), -2);
        Check.due("at 50000, when it is 50000", x.interrupt(1, 50000, 1), 3);
        Check.due("at 50001, when it is 50000", x.interrupt(1, 50001, 1), -2);
        Check.due("switches", Check.switches(x), "49999:0:1002");
    }

    /** "-2 .. micros are not 1 .. 10000". */
    private static void microsAreNone() {
        TaskCores x = new TaskCores(1);
        long[] none = {0, -1, 10001, 10002, 4294967296L, 4294967297L, Long.MIN_VALUE, Long.MAX_VALUE};
        for (long micros : none) {
            Check.due("micros " + micros, x.interrupt(1, 0, micros), -2);
        }
        Check.due("micros 1", x.interrupt(1, 3, 1), 1);
        x.run(10);
        Check.due("switches", Check.switches(x), "3:0:1001 4:0:0");
    }

    private static void theLongestOne() {
        TaskCores x = new TaskCores(1);
        Check.due("micros 10000", x.interrupt(1, 2, 10000), 1);
        Check.task(x, 1, 0, "RUN 1");
        x.activate(1, 0);
        x.run(20000);
        Check.due("switches", Check.switches(x), "0:0:1 2:0:1001 10002:0:0");
    }

    /** "-4 500 were told": those that are through count, too. */
    private static void fiveHundredWereTold() {
        TaskCores x = new TaskCores(1);
        for (int i = 1; i <= 499; i++) {
            Check.due("interrupt " + i, x.interrupt(1 + i % 2, 2, 1), i);
        }
        x.run(600);
        Check.due("interrupt 500", x.interrupt(9, 700, 1), 500);
        Check.due("interrupt 501", x.interrupt(15, 650, 1), -4);
        Check.due("interrupt 501 again", x.interrupt(1, 600, 10000), -4);
        x.run(200);
        Check.due("how many switches", x.order(-1, 0), 5);
        Check.due("level 2 first", x.running(0, 251), 1002);
        Check.due("then level 1", x.running(0, 252), 1001);
        Check.due("to the end", x.running(0, 500), 1001);
        Check.due("all 499 are through", x.running(0, 501), 0);
        Check.due("what was refused", x.running(0, 650), 0);
        Check.due("the 500th", x.running(0, 700), 1009);
    }

    /** "REFUSALS .. the first that fits". */
    private static void fullAndOutsideARange() {
        TaskCores x = new TaskCores(1);
        for (int i = 1; i <= 500; i++) {
            x.interrupt(1, 2, 1);
        }
        Check.due("full: level", x.interrupt(0, 2, 1), -2);
        Check.due("full: time", x.interrupt(1, 50001, 1), -2);
        Check.due("full: micros", x.interrupt(1, 2, 0), -2);
        Check.due("full", x.interrupt(1, 2, 1), -4);
    }

    /** What was refused takes no number, and is not one of the 500. */
    private static void refusedDoesNotCome() {
        TaskCores x = new TaskCores(1);
        x.interrupt(16, 0, 1);
        x.interrupt(1, 50001, 1);
        x.interrupt(1, -1, 5);
        x.interrupt(1, 0, 10001);
        x.interrupt(1, 0, 0);
        x.run(5);
        Check.due("switches", Check.switches(x), "");
        for (int i = 1; i <= 500; i++) {
            Check.due("room for interrupt " + i, x.interrupt(1, 50000, 1), i);
        }
    }

    /** "the one of the highest level is at hand". */
    private static void theHighestLevelIsAtHand() {
        TaskCores x = new TaskCores(1);
        Check.task(x, 255, 0, "RUN 9");
        x.activate(1, 0);
        x.interrupt(3, 5, 10);
        x.interrupt(9, 8, 2);
        x.interrupt(1, 6, 3);
        x.run(40);
        Check.due("switches", Check.switches(x), "0:0:1 5:0:1003 8:0:1009 10:0:1003 17:0:1001 20:0:1 25:0:0");
        Check.due("used", x.used(1), 10);
    }

    private static void eachLevelOverTheOneBelow() {
        TaskCores x = new TaskCores(1);
        for (int level = 1; level <= 15; level++) {
            x.interrupt(level, level, 2);
        }
        x.run(40);
        for (int t = 1; t <= 15; t++) {
            Check.due("running(0, " + t + ")", x.running(0, t), 1000 + t);
        }
        Check.due("running(0, 16)", x.running(0, 16), 1015);
        for (int t = 17; t <= 30; t++) {
            Check.due("running(0, " + t + ")", x.running(0, t), 1031 - t);
        }
        Check.due("running(0, 31)", x.running(0, 31), 0);
    }

    /** "of one level the one that was told first": neither is lost, together they take until 10. */
    private static void ofOneLevelTheOneToldFirst() {
        TaskCores x = new TaskCores(1);
        x.interrupt(4, 3, 5);
        x.interrupt(4, 1, 4);
        x.interrupt(4, 20, 1);
        x.run(40);
        Check.due("switches", Check.switches(x), "1:0:1004 10:0:0 20:0:1004 21:0:0");
    }

    /** "INTERRUPTS come at a time to core 0". */
    private static void toCoreZeroAlone() {
        TaskCores x = new TaskCores(3);
        for (int core = 0; core < 3; core++) {
            Check.task(x, 1, core, "RUN 5");
            x.activate(core + 1, 0);
        }
        x.interrupt(15, 2, 3);
        x.run(20);
        Check.due("switches", Check.switches(x), "0:0:1 0:1:2 0:2:3 2:0:1015 5:0:1 6:1:0 6:2:0 9:0:0");
    }

    /** "Core 0 has none while an interrupt is at hand": the lock is not free at 3, but at 7. */
    private static void noStepsMeanwhile() {
        TaskCores x = new TaskCores(2);
        Check.task(x, 1, 0, "LOCK 1, RUN 2, UNLOCK 1, RUN 1");
        Check.task(x, 1, 1, "RUN 1, LOCK 1, RUN 1, UNLOCK 1");
        x.activate(1, 0);
        x.activate(2, 0);
        x.interrupt(2, 3, 4);
        x.run(5);
        Check.due("spin(0, 1)", x.spin(0, 1), 1);
        Check.due("spin(1, 1)", x.spin(1, 1), -2);
        x.run(15);
        Check.due("switches", Check.switches(x), "0:0:1 0:1:2 3:0:1002 7:0:1 8:0:0 8:1:0");
        Check.due("used(2)", x.used(2), 8);
    }

    /** "Then each core's task is chosen": it is RUNNING under the interrupt, but uses no time. */
    private static void chosenMeanwhile() {
        TaskCores x = new TaskCores(1);
        Check.task(x, 1, 0, "RUN 2");
        Check.task(x, 2, 0, "RUN 2");
        x.activate(1, 1);
        x.activate(2, 3);
        x.interrupt(7, 0, 5);
        x.run(1);
        Check.due("at 1", x.state(1), 0);
        x.run(1);
        Check.due("at 2", x.state(1), 2);
        Check.due("used at 2", x.used(1), 0);
        x.run(2);
        Check.due("at 4", x.state(1), 1);
        Check.due("the higher one at 4", x.state(2), 2);
        x.run(16);
        Check.due("switches", Check.switches(x), "0:0:1007 5:0:2 8:0:1 11:0:0");
    }

    /** "the RUNNING one, if it is not FULL": an interrupt lets no other one come between, either. */
    private static void notFullStaysMeanwhile() {
        TaskCores x = new TaskCores(1);
        Check.task(x, 1, 0, "RUN 5");
        Check.task(x, 9, 0, "RUN 1");
        x.manner(1, false);
        x.activate(1, 0);
        x.activate(2, 3);
        x.interrupt(15, 2, 3);
        x.run(4);
        Check.due("state(1)", x.state(1), 2);
        Check.due("state(2)", x.state(2), 1);
        x.run(16);
        Check.due("switches", Check.switches(x), "0:0:1 2:0:1015 5:0:1 9:0:2 11:0:0");
    }
}
