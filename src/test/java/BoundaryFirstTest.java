/** The sentences of promise 3 that name a boundary. */
public final class BoundaryFirstTest {
    // Weights with a number other than 0 in the greatest table, for the types 0 to 3.
    private static final int[] GREATEST = {16, 37, 76, 235};

    public static void main(String[] args) {
        Sentences promise = new Sentences("promise 3");
        promise.test("a .. is not 0 to 3: -1", BoundaryFirstTest::a);
        promise.test("b is not 0 to 3: -1", BoundaryFirstTest::b);
        promise.test("a or b is not 0 to 3: -1 (both, one on each side)", BoundaryFirstTest::both);
        promise.test("a or b is not 0 to 3: -1 (all around the edge)", BoundaryFirstTest::allAround);
        promise.test("Else answers how many weights have a number other than 0 in it", BoundaryFirstTest::counted);
        promise.test("FIRST becomes the table of (a, b) (a smaller one after a greater one)",
                BoundaryFirstTest::smaller);
        promise.end();
    }

    private static void a(Check check) {
        int[][] wrong = Check.paired(Check.NO_PART_OF_A_TABLE, true, 0, 1, 3);
        check.refusedInEveryState("first", RootWeights::first, wrong, -1);
    }

    private static void b(Check check) {
        int[][] wrong = Check.paired(Check.NO_PART_OF_A_TABLE, false, 0, 1, 3);
        check.refusedInEveryState("first", RootWeights::first, wrong, -1);
    }

    private static void both(Check check) {
        int[][] wrong = {{-1, 4}, {4, -1}, {-1, -1}, {4, 4}, {Integer.MIN_VALUE, Integer.MAX_VALUE}};
        check.refusedInEveryState("first", RootWeights::first, wrong, -1);
    }

    private static void allAround(Check check) {
        for (int type = 0; type <= 3; type++) {
            for (int a = -3; a <= 6; a++) {
                for (int b = -3; b <= 6; b++) {
                    RootWeights x = Check.made(type, 2, 1);
                    boolean taken = x.first(a, b) != -1;
                    boolean due = a >= 0 && a <= 3 && b >= 0 && b <= 3;
                    check.holds(Check.name(type, a, b) + "taken or refused", taken == due);
                    check.due(Check.name(type, a, b) + "number of its top", x.number(due ? a : 2, due ? b : 1), 1);
                    check.same(Check.name(type, a, b) + "the state after it", Check.state(x),
                            Check.state(Check.made(type, due ? a : 2, due ? b : 1)));
                }
            }
        }
    }

    private static void counted(Check check) {
        for (int type = 0; type <= 3; type++) {
            RootWeights x = new RootWeights(type);
            check.due("type " + type + ", first(3, 3)", x.first(3, 3), GREATEST[type]);
            check.due("type " + type + ", first(0, 0)", x.first(0, 0), 1);
            check.due("type " + type + ", first(3, 3) again", x.first(3, 3), GREATEST[type]);
            check.due("type " + type + ", first(3, 3) once more", x.first(3, 3), GREATEST[type]);
        }
    }

    private static void smaller(Check check) {
        for (int type = 0; type <= 3; type++) {
            for (int top = 0; top < 16; top++) {
                RootWeights x = Check.made(type, 3, 3);
                x.first(top / 4, top % 4);
                check.same(Check.name(type, top / 4, top % 4) + "after that of (3, 3)", Check.later(x),
                        Check.later(Check.made(type, top / 4, top % 4)));
            }
        }
    }
}
