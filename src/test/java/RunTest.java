/** Promises 7 and 8: run and now. */
public final class RunTest {
    public static void main(String[] args) {
        microsBelowZero();
        timeAboveFiftyThousand();
        theWholeTimeAtOnce();
        runOfNothing();
        refusedChangesNothing();
        microsecondsThatWentBy();
        switchesOfThisRunAlone();
        inPiecesOrAtOnce();
        allCoresSwitchAllTheTime();
        Check.end();
    }

    /** "-2 micros are below 0". */
    private static void microsBelowZero() {
        TaskCores x = new TaskCores(1);
        long[] below = {-1, -2, -50000, -4294967295L, Long.MIN_VALUE, Long.MIN_VALUE + 1};
        for (long micros : below) {
            Check.due("run(" + micros + ")", x.run(micros), -2);
        }
        x.run(7);
        for (long micros : below) {
            Check.due("run(" + micros + ") at 7", x.run(micros), -2);
        }
        Check.due("now()", x.now(), 7);
    }

    /** "-2 .. time would be above 50000". */
    private static void timeAboveFiftyThousand() {
        TaskCores x = new TaskCores(1);
        long[] above = {50001, 50002, 4294967296L, 4294967297L, Long.MAX_VALUE, Long.MAX_VALUE - 1};
        for (long micros : above) {
            Check.due("run(" + micros + ") at 0", x.run(micros), -2);
        }
        Check.due("now()", x.now(), 0);
        Check.due("run(1)", x.run(1), 0);
        Check.due("run(50000) at 1", x.run(50000), -2);
        Check.due("run(MAX_VALUE) at 1", x.run(Long.MAX_VALUE), -2);
        Check.due("run(19999) at 1", x.run(19999), 0);
        Check.due("run(30001) at 20000", x.run(30001), -2);
        Check.due("now() after it", x.now(), 20000);
        Check.due("run(30000) at 20000", x.run(30000), 0);
        Check.due("now() at the end", x.now(), 50000);
        Check.due("run(1) at the end", x.run(1), -2);
        Check.due("now() after that", x.now(), 50000);
    }

    private static void theWholeTimeAtOnce() {
        TaskCores x = new TaskCores(1);
        Check.task(x, 1, 0, "RUN 50000");
        x.activate(1, 0);
        Check.due("run(50000)", x.run(50000), 1);
        Check.due("now()", x.now(), 50000);
        Check.due("used(1)", x.used(1), 50000);
        Check.due("running(0, 49999)", x.running(0, 49999), 1);
        Check.due("it lacks a microsecond", x.state(1), 2);
    }

    /** run(0): no microsecond goes by, and so nothing happens, not even what was told for now. */
    private static void runOfNothing() {
        TaskCores x = new TaskCores(1);
        Check.task(x, 1, 0, "RUN 3");
        x.activate(1, 0);
        x.interrupt(1, 0, 1);
        Check.due("run(0) at 0", x.run(0), 0);
        Check.due("now()", x.now(), 0);
        Check.due("state(1)", x.state(1), 0);
        Check.due("how many switches", x.order(-1, 0), 0);
        Check.due("run(50000)", x.run(50000), 3);
        Check.due("run(0) at the end", x.run(0), 0);
        Check.due("now() at the end", x.now(), 50000);
    }

    private static void refusedChangesNothing() {
        TaskCores x = new TaskCores(1);
        Check.task(x, 1, 0, "RUN 3");
        x.activate(1, 0);
        x.run(-1);
        x.run(50001);
        Check.due("state(1) at 0", x.state(1), 0);
        x.run(2);
        x.run(49999);
        x.run(-2);
        Check.due("now()", x.now(), 2);
        Check.due("used(1)", x.used(1), 2);
        Check.due("running(0, 2)", x.running(0, 2), -2);
        Check.due("how many switches", x.order(-1, 0), 1);
    }

    /** "Microseconds that went by." */
    private static void microsecondsThatWentBy() {
        TaskCores x = new TaskCores(3);
        long[] runs = {1, 0, 1, 7, 100, 0, 9999, 39892};
        long due = 0;
        Check.due("now() at first", x.now(), 0);
        for (long micros : runs) {
            due += micros;
            x.run(micros);
            Check.due("now() after run(" + micros + ")", x.now(), due);
        }
        Check.due("all of it", due, 50000);
    }

    /** "how many SWITCHES there were", on all cores, in this run. */
    private static void switchesOfThisRunAlone() {
        TaskCores x = new TaskCores(2);
        Check.task(x, 1, 0, "RUN 3");
        Check.task(x, 1, 1, "RUN 5");
        x.activate(1, 0);
        x.activate(2, 0);
        Check.due("run(1)", x.run(1), 2);
        Check.due("run(3)", x.run(3), 0);
        Check.due("run(1)", x.run(1), 1);
        Check.due("run(10)", x.run(10), 1);
        Check.due("run(10)", x.run(10), 0);
        Check.due("how many in all", x.order(-1, 0), 4);
    }

    private static void inPiecesOrAtOnce() {
        TaskCores atOnce = busy();
        int switched = atOnce.run(120);
        for (int piece = 1; piece <= 8; piece++) {
            TaskCores inPieces = busy();
            int sum = 0;
            for (int t = 0; t < 120; t += piece) {
                sum += inPieces.run(Math.min(piece, 120 - t));
            }
            String name = "in pieces of " + piece + ": ";
            Check.due(name + "switches counted", sum, switched);
            Check.due(name + "all", Check.all(inPieces, 2, 3), Check.all(busy(120), 2, 3));
        }
    }

    private static TaskCores busy(int micros) {
        TaskCores x = busy();
        x.run(micros);
        return x;
    }

    private static TaskCores busy() {
        TaskCores x = new TaskCores(2);
        Check.task(x, 3, 0, "OFF 5, LOCK 2, RUN 9, UNLOCK 2, ON, SET 3:1, RUN 4, CHAIN 1");
        Check.task(x, 6, 0, "RUN 2, GET 4, RUN 3");
        Check.extended(x, 6, 1, "WAIT 1, CLEAR 1, LOCK 2, RUN 7, UNLOCK 2, CHAIN 3");
        x.activate(1, 0);
        x.activate(3, 2);
        for (int i = 0; i < 5; i++) {
            x.activate(2, 23 * i);
            x.interrupt(1 + 3 * i, 27 * i, 1 + i % 5);
        }
        return x;
    }

    /** Two tasks a core that CHAIN to each other: as many SWITCHES as there can be. */
    private static void allCoresSwitchAllTheTime() {
        TaskCores x = new TaskCores(8);
        for (int core = 0; core < 8; core++) {
            int first = 2 * core + 1;
            Check.task(x, 1, core, "CHAIN " + (first + 1));
            Check.task(x, 1, core, "CHAIN " + first);
            x.activate(first, 0);
        }
        Check.due("run(50000)", x.run(50000), 400000);
        Check.due("how many", x.order(-1, 0), 400000);
        Check.due("the last one's time", x.order(399999, 0), 49999);
        Check.due("the last one's core", x.order(399999, 1), 7);
        Check.due("the last one's WHO", x.order(399999, 2), 16);
        Check.due("one in the middle: time", x.order(200003, 0), 25000);
        Check.due("one in the middle: core", x.order(200003, 1), 3);
        Check.due("one in the middle: WHO", x.order(200003, 2), 7);
        Check.due("behind the last one", x.order(400000, 0), -1);
        Check.due("running(7, 49999)", x.running(7, 49999), 16);
        Check.due("running(7, 0)", x.running(7, 0), 15);
        Check.due("running(0, 777)", x.running(0, 777), 2);
        Check.due("used(1)", x.used(1), 25000);
    }
}
