/** Promises 7 and 8: run and now. */
public final class RunTest {
    public static void main(String[] args) {
        refusals();
        switchesOfThisRunAlone();
        inPiecesOrAtOnce();
        allTimeOnAllCores();
        Check.end();
    }

    private static void refusals() {
        TaskCores x = new TaskCores(1);
        Check.due("run(-1)", x.run(-1), -2);
        Check.due("run(MIN_VALUE)", x.run(Long.MIN_VALUE), -2);
        Check.due("run(50001)", x.run(50001), -2);
        Check.due("run(MAX_VALUE)", x.run(Long.MAX_VALUE), -2);
        Check.due("run(2 to the 32nd)", x.run(4294967296L), -2);
        Check.due("now()", x.now(), 0);
        Check.due("run(0)", x.run(0), 0);
        Check.due("now() after run(0)", x.now(), 0);
        Check.due("run(20000)", x.run(20000), 0);
        Check.due("now()", x.now(), 20000);
        Check.due("run(30001)", x.run(30001), -2);
        Check.due("now() after a refusal", x.now(), 20000);
        Check.due("run(30000)", x.run(30000), 0);
        Check.due("now() at the end", x.now(), 50000);
        Check.due("run(1) at the end", x.run(1), -2);
        Check.due("run(0) at the end", x.run(0), 0);
    }

    /** run(0) does nothing, not even what was told for now. */
    private static void switchesOfThisRunAlone() {
        TaskCores x = new TaskCores(2);
        Check.taskWith(x, 1, 0, false, 0, 3);
        Check.taskWith(x, 1, 1, false, 0, 5);
        x.activate(1, 0);
        x.activate(2, 0);
        Check.due("run(0)", x.run(0), 0);
        Check.due("state(1)", x.state(1), 0);
        Check.due("run(1)", x.run(1), 2);
        Check.due("run(3)", x.run(3), 0);
        Check.due("run(1)", x.run(1), 1);
        Check.due("run(10)", x.run(10), 1);
        Check.due("run(10)", x.run(10), 0);
        Check.due("how many in all", x.order(-1, 0), 4);
    }

    private static void inPiecesOrAtOnce() {
        TaskCores atOnce = busy();
        int switched = atOnce.run(400);
        for (int piece = 1; piece <= 8; piece++) {
            TaskCores inPieces = busy();
            int sum = 0;
            for (int t = 0; t < 400; t += piece) {
                sum += inPieces.run(Math.min(piece, 400 - t));
            }
            String name = "in pieces of " + piece + ": ";
            Check.due(name + "switches counted", sum, switched);
            Check.due(name + "switches", Check.switches(inPieces), Check.switches(atOnce));
            Check.due(name + "codes", Check.codes(inPieces), Check.codes(atOnce));
        }
    }

    private static TaskCores busy() {
        TaskCores x = new TaskCores(2);
        Check.taskWith(x, 3, 0, false, 12, 5, 8, 2, 0, 9, 9, 2, 13, 0, 4, 3 * 65536 + 1, 0, 4, 2, 1);
        Check.taskWith(x, 6, 0, false, 0, 2, 6, 4, 0, 3);
        Check.taskWith(x, 6, 1, true, 3, 1, 5, 1, 8, 2, 0, 7, 9, 2, 2, 3);
        x.activate(1, 0);
        x.activate(3, 2);
        for (int i = 0; i < 20; i++) {
            x.activate(2, 13 * i);
            x.interrupt(1 + i % 15, 17 * i, 1 + i % 5);
        }
        return x;
    }

    /** Two tasks a core that CHAIN to each other: all cores switch in each microsecond. */
    private static void allTimeOnAllCores() {
        TaskCores x = new TaskCores(8);
        for (int core = 0; core < 8; core++) {
            int first = 2 * core + 1;
            Check.taskWith(x, 1, core, false, 2, first + 1);
            Check.taskWith(x, 1, core, false, 2, first);
            x.activate(first, 0);
        }
        Check.due("run(50000)", x.run(50000), 400000);
        Check.due("how many", x.order(-1, 0), 400000);
        Check.due("the last one's time", x.order(399999, 0), 49999);
        Check.due("the last one's core", x.order(399999, 1), 7);
        Check.due("the last one's WHO", x.order(399999, 2), 16);
        Check.due("one in the middle: time", x.order(200003, 0), 25000);
        Check.due("one in the middle: core", x.order(200003, 1), 3);
        Check.due("one in the middle: WHO", x.order(200003, 2), 7);
        Check.due("behind the last one", x.order(400000, 0), -1);
        Check.due("running(7, 49999)", x.running(7, 49999), 16);
        Check.due("running(7, 0)", x.running(7, 0), 15);
        Check.due("running(0, 777)", x.running(0, 777), 2);
        Check.due("used(1)", x.used(1), 25000);
    }
}
