/** Promise 14: code. */
public final class CodeTest {
    public static void main(String[] args) {
        answers();
        firstThousandAreKept();
        Check.end();
    }

    private static void answers() {
        TaskCores x = new TaskCores(1);
        Check.due("code(-1, 0) at first", x.code(-1, 0), 0);
        Check.due("code(0, 0) at first", x.code(0, 0), -1);
        Check.due("code(0, 3) at first", x.code(0, 3), -1);
        x.task(1, 0, 1, false);
        Check.taskWith(x, 1, 0, false, 0, 6, 9, 3, 7, 5);
        x.activate(2, 4);
        x.run(30);
        Check.due("code(-1, 0)", x.code(-1, 0), 2);
        Check.due("code(0, 0)", x.code(0, 0), 6);
        Check.due("code(0, 1)", x.code(0, 1), 2);
        Check.due("code(0, 2)", x.code(0, 2), 11);
        Check.due("code(1, 0)", x.code(1, 0), 4);
        Check.due("code(1, 1)", x.code(1, 1), 2);
        Check.due("code(1, 2)", x.code(1, 2), 11);
        Check.due("code(1, 3)", x.code(1, 3), -2);
        Check.due("code(1, -1)", x.code(1, -1), -2);
        Check.due("code(1, MAX_VALUE)", x.code(1, Integer.MAX_VALUE), -2);
        Check.due("code(1, MIN_VALUE)", x.code(1, Integer.MIN_VALUE), -2);
        Check.due("code(2, 0)", x.code(2, 0), -1);
        Check.due("code(2, 3)", x.code(2, 3), -1);
        Check.due("code(-1, 1)", x.code(-1, 1), -1);
        Check.due("code(-1, 2)", x.code(-1, 2), -1);
        Check.due("code(-1, 3)", x.code(-1, 3), -1);
        Check.due("code(-2, 0)", x.code(-2, 0), -1);
        Check.due("code(MIN_VALUE, 0)", x.code(Integer.MIN_VALUE, 0), -1);
        Check.due("code(MAX_VALUE, 0)", x.code(Integer.MAX_VALUE, 0), -1);
    }

    /** 400 codes in each of the microseconds 1, 2 and 3. */
    private static void firstThousandAreKept() {
        TaskCores x = new TaskCores(1);
        x.task(1, 0, 1, false);
        for (int i = 0; i < 400; i++) {
            x.part(1, 9, 1);
        }
        x.part(1, 2, 1);
        x.activate(1, 0);
        x.run(4);
        Check.due("code(-1, 0)", x.code(-1, 0), 1200);
        Check.due("code(399, 2)", x.code(399, 2), 1);
        Check.due("code(400, 2)", x.code(400, 2), 2);
        Check.due("code(512, 2)", x.code(512, 2), 2);
        Check.due("code(999, 0)", x.code(999, 0), 6);
        Check.due("code(999, 1)", x.code(999, 1), 1);
        Check.due("code(999, 2)", x.code(999, 2), 3);
        Check.due("code(1000, 0)", x.code(1000, 0), -1);
        Check.due("code(1100, 2)", x.code(1100, 2), -1);
        Check.due("code(1000, 3)", x.code(1000, 3), -1);
    }
}
