/** The sentences of promise 1 that name a boundary. */
public final class BoundaryNewObjectTest {
    private static final int[] BELOW = {-1, -2, -3, -4, -256, -65536, Integer.MIN_VALUE + 3, Integer.MIN_VALUE};
    private static final int[] ABOVE = {4, 5, 6, 7, 256, 65536, Integer.MAX_VALUE - 3, Integer.MAX_VALUE};

    public static void main(String[] args) {
        Sentences promise = new Sentences("promise 1");
        promise.test("The type is 'type' clamped into 0 to 3", BoundaryNewObjectTest::within);
        promise.test("below 0 becomes 0", check -> clamped(check, BELOW, 0));
        promise.test("above 3 becomes 3", check -> clamped(check, ABOVE, 3));
        promise.test("FIRST .. the table of (0, 0)", BoundaryNewObjectTest::firstIsLeast);
        promise.test("SECOND .. the table of (0, 0)", BoundaryNewObjectTest::secondIsLeast);
        promise.end();
    }

    private static void within(Check check) {
        for (int type = 0; type <= 3; type++) {
            check.due("type(2) after new RootWeights(" + type + ")", new RootWeights(type).type(2), type);
        }
        check.due("new RootWeights(0), orbit(1, 1)", new RootWeights(0).orbit(1, 1), 4);
        check.due("new RootWeights(1), orbit(1, 1)", new RootWeights(1).orbit(1, 1), 6);
        check.due("new RootWeights(2), orbit(1, 1)", new RootWeights(2).orbit(1, 1), 8);
        check.due("new RootWeights(3), orbit(1, 1)", new RootWeights(3).orbit(1, 1), 12);
    }

    private static void clamped(Check check, int[] given, int type) {
        String want = Check.later(new RootWeights(type));
        for (int number : given) {
            String name = "new RootWeights(" + number + ")";
            check.due("type(1) after " + name, new RootWeights(number).type(1), type);
            check.same("calls after " + name, Check.later(new RootWeights(number)), want);
        }
    }

    private static void firstIsLeast(Check check) {
        for (int given = -1; given <= 4; given++) {
            String name = "new RootWeights(" + given + "), ";
            RootWeights x = new RootWeights(given);
            check.due(name + "size()", x.size(), 1);
            check.due(name + "most()", x.most(), 1);
            for (int c = -2; c <= 2; c++) {
                for (int d = -2; d <= 2; d++) {
                    int want = c == 0 && d == 0 ? 1 : 0;
                    check.due(name + "number(" + c + ", " + d + ")", x.number(c, d), want);
                }
            }
            check.due(name + "even(0, 0)", x.even(0, 0), 1);
            check.due(name + "odd(0, 0)", x.odd(0, 0), 0);
            check.due(name + "along(0, 0)", x.along(0, 0), 1);
            check.due(name + "along(1, 1)", x.along(1, 1), 0);
            x.second(3, 2);
            check.due(name + "kinds() with second of (3, 2)", x.kinds(), 1);
            check.due(name + "product(3, 2) with second of (3, 2)", x.product(3, 2), 1);
        }
    }

    private static void secondIsLeast(Check check) {
        for (int given = -1; given <= 4; given++) {
            String name = "new RootWeights(" + given + "), ";
            RootWeights x = new RootWeights(given);
            check.due(name + "product(0, 0)", x.product(0, 0), 1);
            check.due(name + "total()", x.total(), 1);
            x.first(3, 2);
            check.due(name + "kinds() with first of (3, 2)", x.kinds(), 1);
            check.due(name + "total() with first of (3, 2)", x.total(), 1);
            check.due(name + "product(3, 2) with first of (3, 2)", x.product(3, 2), 1);
        }
    }
}
