/** Terms: the parts GET and FREE, CEILING and HEIGHT. */
public final class ResourceTest {
    public static void main(String[] args) {
        getThatItHolds();
        getThatAnotherOneHolds();
        getThatWasPassedOver();
        freeThatNobodyHolds();
        freeThatAnotherOneHolds();
        freeThatIsNotTheLast();
        heightOfSeveral();
        theGreatestCeilingOfSeveral();
        theGreatestRankIsTheCeiling();
        ceilingOfAnotherCore();
        ceilingOfItsOwnRank();
        ceilingAtTheEndsOfRank();
        ceilingOfOneThatNeverRuns();
        readyOneKeepsItsHeight();
        Check.end();
    }

    /** "GET: code 4 if some task holds the resource": the task itself. */
    private static void getThatItHolds() {
        TaskCores x = new TaskCores(1);
        Check.task(x, 1, 0, "GET 1, GET 1, RUN 1, FREE 1, FREE 1, RUN 1");
        x.activate(1, 0);
        x.run(2);
        Check.due("codes at 2", Check.codes(x), "4:1:1");
        Check.due("holder(1)", x.holder(1), 1);
        x.run(9);
        Check.due("it held it once", Check.codes(x), "4:1:1 4:1:2");
        Check.due("used(1)", x.used(1), 3);
    }

    /** "GET: code 4 if some task holds the resource": one of another core. */
    private static void getThatAnotherOneHolds() {
        TaskCores x = new TaskCores(2);
        Check.task(x, 1, 0, "GET 9, RUN 5, FREE 9");
        Check.task(x, 1, 1, "RUN 2, GET 9, RUN 5, GET 9, RUN 1, FREE 9");
        x.activate(1, 0);
        x.activate(2, 0);
        x.run(5);
        Check.due("codes at 5", Check.codes(x), "4:2:3");
        Check.due("holder(9) at 5", x.holder(9), 1);
        x.run(4);
        Check.due("holder(9) at 9", x.holder(9), 2);
        x.run(10);
        Check.due("codes", Check.codes(x), "4:2:3");
        Check.due("holder(9)", x.holder(9), 0);
    }

    /** "A part with a code is passed over": it holds nothing, and has its RANK alone. */
    private static void getThatWasPassedOver() {
        TaskCores x = new TaskCores(2);
        Check.task(x, 9, 1, "GET 1, RUN 20, FREE 1");
        Check.task(x, 1, 0, "RUN 1, GET 1, RUN 5");
        Check.task(x, 5, 0, "RUN 1");
        x.activate(1, 0);
        x.activate(2, 0);
        x.activate(3, 4);
        x.run(15);
        Check.due("codes", Check.codes(x), "4:2:2");
        Check.due("switches", Check.switches(x), "0:0:2 0:1:1 4:0:3 6:0:2 9:0:0");
    }

    /** "FREE: code 4 unless it is the one that this task got last": it holds none. */
    private static void freeThatNobodyHolds() {
        TaskCores x = new TaskCores(1);
        Check.task(x, 1, 0, "FREE 1, FREE 32, GET 2, FREE 2, FREE 2, RUN 1");
        x.activate(1, 0);
        x.run(9);
        Check.due("codes", Check.codes(x), "4:1:1 4:1:1 4:1:1");
        Check.due("used(1)", x.used(1), 2);
    }

    private static void freeThatAnotherOneHolds() {
        TaskCores x = new TaskCores(2);
        Check.task(x, 1, 0, "GET 9, RUN 5, FREE 9");
        Check.task(x, 1, 1, "RUN 1, FREE 9, GET 8, FREE 9, FREE 8, RUN 1");
        x.activate(1, 0);
        x.activate(2, 0);
        x.run(4);
        Check.due("holder(9)", x.holder(9), 1);
        Check.due("holder(8)", x.holder(8), 0);
        x.run(9);
        Check.due("codes", Check.codes(x), "4:2:2 4:2:2");
    }

    /** ".. got last of those that it holds": 1, 2, 3 are free as 3, 2, 1 alone. */
    private static void freeThatIsNotTheLast() {
        TaskCores x = new TaskCores(1);
        Check.task(x, 1, 0, "GET 1, GET 2, GET 3, FREE 1, FREE 2, FREE 3, "
            + "FREE 1, FREE 2, FREE 3, RUN 2, FREE 1, RUN 1");
        x.activate(1, 0);
        x.run(2);
        Check.due("codes at 2", Check.codes(x), "4:1:1 4:1:1 4:1:1 4:1:1");
        Check.due("holder(1) at 2", x.holder(1), 1);
        Check.due("holder(2) at 2", x.holder(2), 0);
        Check.due("holder(3) at 2", x.holder(3), 0);
        x.run(8);
        Check.due("holder(1)", x.holder(1), 0);
        Check.due("codes", Check.codes(x), "4:1:1 4:1:1 4:1:1 4:1:1");
    }

    /** With 1 (CEILING 4) and 2 (CEILING 8) HEIGHT is 8 from 1 on, 4 from 3 on, 1 from 5 on. */
    private static void heightOfSeveral() {
        TaskCores x = new TaskCores(1);
        Check.task(x, 1, 0, "GET 1, GET 2, RUN 2, FREE 2, RUN 2, FREE 1, RUN 2");
        Check.task(x, 4, 0, "GET 1, FREE 1");
        Check.task(x, 8, 0, "GET 2, FREE 2");
        Check.task(x, 6, 0, "RUN 1");
        x.activate(1, 0);
        x.activate(2, 2);
        x.activate(3, 2);
        x.activate(4, 2);
        x.run(20);
        Check.due("switches", Check.switches(x), "0:0:1 3:0:3 4:0:4 6:0:1 8:0:2 9:0:1 11:0:0");
        Check.due("codes", Check.codes(x), "");
    }

    /** The one with the CEILING 8 was got first, and counts all the same. */
    private static void theGreatestCeilingOfSeveral() {
        TaskCores x = new TaskCores(1);
        Check.task(x, 1, 0, "GET 2, GET 1, RUN 4, FREE 1, RUN 4, FREE 2");
        Check.task(x, 4, 0, "GET 1, FREE 1");
        Check.task(x, 8, 0, "GET 2, FREE 2");
        x.activate(1, 0);
        x.activate(3, 2);
        x.run(20);
        Check.due("switches", Check.switches(x), "0:0:1 9:0:3 10:0:0");
    }

    /** "the greatest RANK of tasks with a part GET for it": the first, the middle or the last told. */
    private static void theGreatestRankIsTheCeiling() {
        int[][] orders = {{7, 4, 2}, {4, 7, 2}, {4, 2, 7}, {2, 7, 4}};
        for (int[] ranks : orders) {
            TaskCores x = new TaskCores(2);
            for (int rank : ranks) {
                Check.task(x, rank, 1, "GET 1, FREE 1, GET 1");
            }
            Check.task(x, 1, 0, "GET 1, RUN 4, FREE 1");
            Check.task(x, 7, 0, "RUN 1");
            x.activate(4, 0);
            x.activate(5, 2);
            x.run(20);
            String name = "ranks " + ranks[0] + ", " + ranks[1] + ", " + ranks[2];
            Check.due(name, Check.switches(x), "0:0:4 5:0:5 7:0:0");
        }
    }

    /** A task of another core raises the CEILING; one of the same HEIGHT does not come between. */
    private static void ceilingOfAnotherCore() {
        TaskCores x = new TaskCores(2);
        Check.task(x, 1, 0, "GET 3, RUN 4, FREE 3, RUN 1");
        Check.task(x, 7, 1, "GET 3");
        Check.task(x, 7, 0, "RUN 1");
        Check.task(x, 8, 0, "RUN 1");
        x.activate(1, 0);
        x.activate(3, 2);
        x.activate(4, 3);
        x.run(20);
        Check.due("switches", Check.switches(x), "0:0:1 3:0:4 5:0:1 7:0:3 9:0:1 10:0:0");
    }

    /** "if that is greater": a lower one's GET, or its own, raises nothing. */
    private static void ceilingOfItsOwnRank() {
        TaskCores x = new TaskCores(1);
        Check.task(x, 3, 0, "GET 1, RUN 5, FREE 1");
        Check.task(x, 2, 0, "GET 1, FREE 1");
        Check.task(x, 4, 0, "RUN 1");
        x.activate(1, 0);
        x.activate(2, 1);
        x.activate(3, 3);
        x.run(20);
        Check.due("switches", Check.switches(x), "0:0:1 3:0:3 5:0:1 8:0:2 9:0:0");
    }

    /** CEILING 255 over RANK 254, CEILING 1 over RANK 0 but below 2. */
    private static void ceilingAtTheEndsOfRank() {
        TaskCores x = new TaskCores(2);
        Check.task(x, 0, 0, "GET 1, RUN 5, FREE 1");
        Check.task(x, 255, 1, "GET 1");
        Check.task(x, 255, 0, "RUN 1");
        x.activate(1, 0);
        x.activate(3, 2);
        x.run(20);
        Check.due("255 does not come between", Check.switches(x), "0:0:1 6:0:3 8:0:0");
        TaskCores y = new TaskCores(2);
        Check.task(y, 0, 0, "GET 1, RUN 5, FREE 1");
        Check.task(y, 1, 1, "GET 1");
        Check.task(y, 1, 0, "RUN 1");
        Check.task(y, 2, 0, "RUN 1");
        y.activate(1, 0);
        y.activate(3, 2);
        y.activate(4, 3);
        y.run(20);
        Check.due("1 does not, 2 does", Check.switches(y), "0:0:1 3:0:4 5:0:1 8:0:3 10:0:0");
    }

    /** "tasks with a part GET for it": whether it is ever done or not. */
    private static void ceilingOfOneThatNeverRuns() {
        TaskCores x = new TaskCores(1);
        Check.task(x, 1, 0, "GET 1, RUN 3, FREE 1");
        Check.task(x, 6, 0, "END, GET 1");
        Check.task(x, 5, 0, "RUN 1");
        x.activate(1, 0);
        x.activate(3, 2);
        x.run(20);
        Check.due("switches", Check.switches(x), "0:0:1 4:0:3 6:0:0");
    }

    /** Task 1 is READY with HEIGHT 6; task 2 of rank 6, with a later TURN, does not come before it. */
    private static void readyOneKeepsItsHeight() {
        TaskCores x = new TaskCores(1);
        Check.task(x, 1, 0, "GET 1, RUN 4, FREE 1");
        Check.task(x, 6, 0, "GET 1, FREE 1");
        Check.task(x, 9, 0, "RUN 2");
        x.activate(1, 0);
        x.activate(3, 2);
        x.activate(2, 3);
        x.run(20);
        Check.due("switches", Check.switches(x), "0:0:1 2:0:3 5:0:1 8:0:2 9:0:0");
        Check.due("codes", Check.codes(x), "");
    }
}
