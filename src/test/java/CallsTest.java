/** "An object is used for at most 512 calls": the last one of them is answered as the first. */
public final class CallsTest {
    public static void main(String[] args) {
        runByRun();
        questionByQuestion();
        Check.end();
    }

    /** 3 calls that tell, 508 runs, and used is the 512th. */
    private static void runByRun() {
        TaskCores x = new TaskCores(8);
        x.task(1, 7, 1, false);
        x.part(1, 0, 50000);
        x.activate(1, 0);
        for (int i = 0; i < 508; i++) {
            Check.due("run " + i, x.run(1), i == 0 ? 1 : 0);
        }
        Check.due("used(1)", x.used(1), 508);
    }

    /** 4 calls that tell and run, and 508 questions: they change nothing. */
    private static void questionByQuestion() {
        TaskCores x = new TaskCores(8);
        x.task(1, 7, 1, false);
        x.part(1, 0, 50000);
        x.activate(1, 0);
        x.run(50000);
        for (int i = 0; i < 508; i++) {
            Check.due("question " + i, x.running(7, 49492 + i), 1);
        }
    }
}
