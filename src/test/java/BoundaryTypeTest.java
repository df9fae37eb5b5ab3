/** The sentences of promise 2 that name a boundary. */
public final class BoundaryTypeTest {
    private static final int[][] TOO_SMALL = {
        {-1, 0}, {-2, 0}, {-3, 0}, {-4, 0}, {-256, 0}, {-65536, 0}, {Integer.MIN_VALUE, 0}, {Integer.MIN_VALUE + 3, 0},
    };
    private static final int[][] TOO_LARGE = {
        {4, 0}, {5, 0}, {7, 0}, {256, 0}, {257, 0}, {65536, 0}, {Integer.MAX_VALUE, 0}, {Integer.MAX_VALUE - 3, 0},
    };

    public static void main(String[] args) {
        Sentences promise = new Sentences("promise 2");
        promise.test("type is not 0 to 3: -1 (too small)", check -> refused(check, TOO_SMALL, 0));
        promise.test("type is not 0 to 3: -1 (too large)", check -> refused(check, TOO_LARGE, 3));
        promise.test("Else answers the type before", BoundaryTypeTest::before);
        promise.test("first .. of the same high weight", BoundaryTypeTest::sameFirst);
        promise.test("second .. of the same high weight", BoundaryTypeTest::sameSecond);
        promise.test("first and second are those of the same high weights", BoundaryTypeTest::sameBoth);
        promise.end();
    }

    private static void refused(Check check, int[][] wrong, int atTheEdge) {
        check.refusedInEveryState("type", (x, type, unused) -> x.type(type), wrong, -1);
        for (int from = 0; from <= 3; from++) {
            RootWeights x = new RootWeights(from);
            check.due("type(" + atTheEdge + ")", x.type(atTheEdge), from);
            check.due("type(" + wrong[0][0] + ")", x.type(wrong[0][0]), -1);
            check.due("type(1) after both", x.type(1), atTheEdge);
        }
    }

    private static void before(Check check) {
        for (int from = 0; from <= 3; from++) {
            for (int to = 0; to <= 3; to++) {
                RootWeights x = new RootWeights(from);
                check.due("type(" + to + ") from type " + from, x.type(to), from);
                check.due("type(" + to + ") once more", x.type(to), to);
                check.due("type(" + from + ") back from type " + to, x.type(from), to);
            }
        }
    }

    private static void sameFirst(Check check) {
        for (int from = 0; from <= 3; from++) {
            for (int to = 0; to <= 3; to++) {
                for (int top = 0; top < 16; top++) {
                    RootWeights x = Check.made(from, top / 4, top % 4);
                    x.type(to);
                    String want = Check.later(Check.made(to, top / 4, top % 4));
                    String name = "from type " + from + " to type " + to + " with " + Check.name(to, top / 4, top % 4);
                    check.same(name + "calls after it", Check.later(x), want);
                }
            }
        }
    }

    private static void sameSecond(Check check) {
        int[] first = {1, 2};
        for (int from = 0; from <= 3; from++) {
            for (int to = 0; to <= 3; to++) {
                for (int top = 0; top < 16; top++) {
                    int[] second = {top / 4, top % 4};
                    RootWeights x = Check.made(from, first, second);
                    x.type(to);
                    String want = Check.later(Check.made(to, first, second));
                    String name = "from type " + from + " to type " + to + " with " + Check.name(to, top / 4, top % 4);
                    check.same(name + "calls after it", Check.later(x), want);
                }
            }
        }
    }

    /** By numbers known by hand: 8 times 3 weights at type 1 make 15 + 6 + 3, and so on. */
    private static void sameBoth(Check check) {
        RootWeights x = Check.made(1, new int[] {1, 1}, new int[] {1, 0});
        check.due("type 1, size()", x.size(), 8);
        check.due("type 1, kinds()", x.kinds(), 3);
        check.due("type(0)", x.type(0), 1);
        check.due("type 0, size()", x.size(), 4);
        check.due("type 0, kinds()", x.kinds(), 2);
        check.due("type 0, product(2, 1)", x.product(2, 1), 1);
        check.due("type 0, product(0, 1)", x.product(0, 1), 1);
        check.due("type(2)", x.type(2), 0);
        check.due("type 2, size()", x.size(), 16);
        check.due("type 2, product(2, 1)", x.product(2, 1), 1);
        check.due("type(3)", x.type(3), 2);
        check.due("type 3, size()", x.size(), 64);
        check.due("type 3, product(2, 1)", x.product(2, 1), 1);
        check.due("type(1)", x.type(1), 3);
        check.due("type 1 again, size()", x.size(), 8);
        check.due("type 1 again, kinds()", x.kinds(), 3);
        check.due("type 1 again, total()", x.total(), 3);
    }
}
