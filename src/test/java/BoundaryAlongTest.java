/** The sentences of promise 15 that name a boundary. */
public final class BoundaryAlongTest {
    private static final int[] NO_PART = {
        -1, -2, 2, 3, 256, 257, 65536, 65537, Integer.MIN_VALUE, Integer.MIN_VALUE + 1, Integer.MAX_VALUE,
    };
    private static final int[] TOO_SMALL = {
        -1, -2, -3, -40, -41, -256, -65536, Integer.MIN_VALUE + 1, Integer.MIN_VALUE,
    };
    private static final int[] TOO_LARGE = {
        41, 42, 43, 81, 256, 65536, Integer.MAX_VALUE - 2, Integer.MAX_VALUE - 1, Integer.MAX_VALUE,
    };

    public static void main(String[] args) {
        Sentences promise = new Sentences("promise 15");
        promise.test("i is not 0 or 1: -1", BoundaryAlongTest::noPart);
        promise.test("k is not 0 to 40: -2 (too small)", check -> noLine(check, TOO_SMALL));
        promise.test("k is not 0 to 40: -2 (too large)", check -> noLine(check, TOO_LARGE));
        promise.test("the test of i comes before the test of k", BoundaryAlongTest::order);
        promise.test("0: the first part, 1: the second", BoundaryAlongTest::parts);
        promise.test("less the sum of those .. whose part i is k + 2 (at the rim of a table)", BoundaryAlongTest::rim);
        promise.test("less the sum of those .. whose part i is k + 2 (from 0 to 40)", BoundaryAlongTest::allLines);
        promise.end();
    }

    private static void noPart(Check check) {
        check.refusedInEveryState("along", RootWeights::along, Check.paired(NO_PART, true, 0, 1, 40), -1);
    }

    private static void noLine(Check check, int[] wrong) {
        check.refusedInEveryState("along", RootWeights::along, Check.paired(wrong, false, 0, 1), -2);
    }

    private static void order(Check check) {
        check.refusedInEveryState("along", RootWeights::along, Check.paired(NO_PART, true, TOO_SMALL), -1);
        check.refusedInEveryState("along", RootWeights::along, Check.paired(NO_PART, true, TOO_LARGE), -1);
        RootWeights x = new RootWeights(2);
        check.due("both wrong: along(2, 41)", x.along(2, 41), -1);
        check.due("k wrong alone: along(1, 41)", x.along(1, 41), -2);
        check.due("i wrong alone: along(2, 40)", x.along(2, 40), -1);
        check.due("none wrong: along(1, 40)", x.along(1, 40), 0);
        check.due("both wrong: along(-1, -1)", x.along(-1, -1), -1);
        check.due("k wrong alone: along(0, -1)", x.along(0, -1), -2);
        check.due("i wrong alone: along(-1, 0)", x.along(-1, 0), -1);
        check.due("none wrong: along(0, 0)", x.along(0, 0), 1);
    }

    /** Type 0's table of (2, 1) has a 1 at the first parts -2, 0, 2 with the second parts -1, 1. */
    private static void parts(Check check) {
        RootWeights x = Check.made(0, 2, 1);
        int[] first = {0, 0, 2, 0};
        int[] second = {0, 3, 0, 0};
        for (int k = 0; k <= 3; k++) {
            check.due("type 0, (2, 1): along(0, " + k + ")", x.along(0, k), first[k]);
            check.due("type 0, (2, 1): along(1, " + k + ")", x.along(1, k), second[k]);
        }
    }

    /** At type 3 the greatest first part in the table of (3, 3) is 9, the greatest second part 15. */
    private static void rim(Check check) {
        RootWeights x = Check.made(3, 3, 3);
        check.due("type 3, (3, 3): along(0, 9)", x.along(0, 9), line(3, 0, 9));
        check.holds("there is something at the first part 9", line(3, 0, 9) > 0);
        check.due("type 3, (3, 3): along(0, 10)", x.along(0, 10), 0);
        check.due("type 3, (3, 3): along(0, 8)", x.along(0, 8), line(3, 0, 8));
        check.due("type 3, (3, 3): along(0, 7)", x.along(0, 7), line(3, 0, 7) - line(3, 0, 9));
        check.due("type 3, (3, 3): along(1, 15)", x.along(1, 15), line(3, 1, 15));
        check.due("type 3, (3, 3): along(1, 15) by hand", x.along(1, 15), 4);
        check.due("type 3, (3, 3): along(1, 16)", x.along(1, 16), 0);
        check.due("type 3, (3, 3): along(1, 13)", x.along(1, 13), line(3, 1, 13) - line(3, 1, 15));
        check.due("type 3, (3, 3): along(1, 38)", x.along(1, 38), 0);
        check.due("type 3, (3, 3): along(1, 39)", x.along(1, 39), 0);
        check.due("type 3, (3, 3): along(1, 40)", x.along(1, 40), 0);
    }

    private static int line(int type, int i, int k) {
        RootWeights x = Check.made(type, 3, 3);
        int sum = 0;
        for (int other = -40; other <= 40; other++) {
            sum += i == 0 ? x.number(k, other) : x.number(other, k);
        }
        return sum;
    }

    private static void allLines(Check check) {
        for (int type = 0; type <= 3; type++) {
            for (int top = 0; top < 16; top++) {
                int[][] numbers = Check.answers(Check.maker(type, top / 4, top % 4), RootWeights::number);
                RootWeights x = Check.made(type, top / 4, top % 4);
                String name = Check.name(type, top / 4, top % 4);
                for (int k = 0; k <= 40; k++) {
                    check.due(name + "along(0, " + k + ")", x.along(0, k), sum(numbers, 0, k) - sum(numbers, 0, k + 2));
                    check.due(name + "along(1, " + k + ")", x.along(1, k), sum(numbers, 1, k) - sum(numbers, 1, k + 2));
                }
            }
        }
    }

    /** Beyond 40 there is nothing to ask, and nothing to add. */
    private static int sum(int[][] numbers, int i, int k) {
        int sum = 0;
        for (int other = 0; other <= 80 && k <= 40; other++) {
            sum += i == 0 ? numbers[k + 40][other] : numbers[other][k + 40];
        }
        return sum;
    }
}
