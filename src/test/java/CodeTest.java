/** Promise 14: code. */
public final class CodeTest {
    public static void main(String[] args) {
        theFirstAndTheLast();
        howManyThereWere();
        thereIsNone();
        noneYet();
        minusOneWithAnotherWhat();
        noSuchWhat();
        theFirstThatFits();
        theFirstThousandAreKept();
        thousandAndNotOneMore();
        oneMoreThanThousand();
        theGreatestNumbers();
        Check.end();
    }

    /** Codes 6, 4 and 1 with the tasks 2, 2 and 1, at 11, 11 and 15. */
    private static TaskCores threeCodes() {
        TaskCores x = new TaskCores(1);
        Check.task(x, 1, 0, "RUN 5");
        Check.task(x, 1, 0, "RUN 6, UNLOCK 3, FREE 5");
        x.activate(2, 4);
        x.activate(1, 14);
        x.activate(1, 15);
        x.run(30);
        return x;
    }

    /** "The i-th code that was told: what = 0 the code, 1 the task, 2 the time". */
    private static void theFirstAndTheLast() {
        TaskCores x = threeCodes();
        int[][] due = {{6, 2, 11}, {4, 2, 11}, {1, 1, 15}};
        for (int i = 0; i < 3; i++) {
            for (int what = 0; what < 3; what++) {
                Check.due("code(" + i + ", " + what + ")", x.code(i, what), due[i][what]);
            }
        }
    }

    /** "i = -1 with what = 0: how many there were". */
    private static void howManyThereWere() {
        Check.due("none", new TaskCores(1).code(-1, 0), 0);
        TaskCores x = threeCodes();
        Check.due("three", x.code(-1, 0), 3);
        x.run(20);
        Check.due("and no more", x.code(-1, 0), 3);
    }

    /** "-1 there is none". */
    private static void thereIsNone() {
        TaskCores x = threeCodes();
        int[] unknown = {3, 4, 999, 1000, 1001, -2, -3, Integer.MIN_VALUE, Integer.MAX_VALUE};
        for (int i : unknown) {
            for (int what = 0; what < 3; what++) {
                Check.due("code(" + i + ", " + what + ")", x.code(i, what), -1);
            }
        }
    }

    private static void noneYet() {
        TaskCores x = new TaskCores(1);
        for (int what = -1; what <= 3; what++) {
            Check.due("code(0, " + what + ")", x.code(0, what), -1);
        }
    }

    /** "(.. so with i = -1 and another what)". */
    private static void minusOneWithAnotherWhat() {
        TaskCores x = threeCodes();
        int[] others = {1, 2, 3, -1, Integer.MIN_VALUE, Integer.MAX_VALUE};
        for (int what : others) {
            Check.due("code(-1, " + what + ")", x.code(-1, what), -1);
            Check.due("none at all: code(-1, " + what + ")", new TaskCores(1).code(-1, what), -1);
        }
    }

    /** "-2 no such what". */
    private static void noSuchWhat() {
        TaskCores x = threeCodes();
        int[] unknown = {-1, 3, 4, -2, Integer.MIN_VALUE, Integer.MAX_VALUE};
        for (int what : unknown) {
            Check.due("code(0, " + what + ")", x.code(0, what), -2);
            Check.due("code(2, " + what + ")", x.code(2, what), -2);
        }
    }

    /** "REFUSALS .. the first that fits": none, and no such what. */
    private static void theFirstThatFits() {
        TaskCores x = threeCodes();
        Check.due("code(3, 3)", x.code(3, 3), -1);
        Check.due("code(3, -1)", x.code(3, -1), -1);
        Check.due("code(-2, 3)", x.code(-2, 3), -1);
        Check.due("code(-1, 3)", x.code(-1, 3), -1);
    }

    /** So many codes in each of the microseconds 1, 2, and so on. */
    private static TaskCores codesInEachMicrosecond(int codes, int micros) {
        TaskCores x = new TaskCores(1);
        x.task(1, 0, 1, false);
        for (int i = 0; i < codes; i++) {
            x.part(1, 9, 1);
        }
        x.part(1, 2, 1);
        x.activate(1, 0);
        x.run(micros + 1);
        return x;
    }

    /** "(the first 1000 are kept ..)". */
    private static void theFirstThousandAreKept() {
        TaskCores x = codesInEachMicrosecond(400, 3);
        Check.due("code(0, 2)", x.code(0, 2), 1);
        Check.due("code(399, 2)", x.code(399, 2), 1);
        Check.due("code(400, 2)", x.code(400, 2), 2);
        Check.due("code(512, 2)", x.code(512, 2), 2);
        Check.due("code(999, 0)", x.code(999, 0), 6);
        Check.due("code(999, 1)", x.code(999, 1), 1);
        Check.due("code(999, 2)", x.code(999, 2), 3);
        Check.due("code(1000, 0)", x.code(1000, 0), -1);
        Check.due("code(1000, 3)", x.code(1000, 3), -1);
        Check.due("code(1199, 2)", x.code(1199, 2), -1);
        x.run(1000);
        Check.due("code(999, 2) later", x.code(999, 2), 3);
        Check.due("code(1000, 2) later", x.code(1000, 2), -1);
    }

    private static void thousandAndNotOneMore() {
        TaskCores x = codesInEachMicrosecond(10, 100);
        Check.due("how many", x.code(-1, 0), 1000);
        Check.due("code(999, 2)", x.code(999, 2), 100);
        Check.due("code(999, 3)", x.code(999, 3), -2);
        Check.due("code(1000, 2)", x.code(1000, 2), -1);
    }

    private static void oneMoreThanThousand() {
        TaskCores x = codesInEachMicrosecond(1, 999);
        Check.due("code(998, 2) of 999", x.code(998, 2), 999);
        Check.due("code(999, 2) of 999", x.code(999, 2), -1);
        x.run(1);
        Check.due("code(999, 2) of 1000", x.code(999, 2), 1000);
        x.run(1);
        Check.due("code(999, 2) of 1001", x.code(999, 2), 1000);
        Check.due("code(1000, 2) of 1001", x.code(1000, 2), -1);
    }

    /** Code 9, task 100, time 49999. */
    private static void theGreatestNumbers() {
        TaskCores x = new TaskCores(1);
        for (int i = 1; i <= 99; i++) {
            x.task(1, 0, 1, false);
        }
        Check.task(x, 1, 0, "OFF 49998, RUN 50000");
        x.activate(100, 0);
        x.run(50000);
        Check.due("codes", Check.codes(x), "9:100:49999");
    }
}
