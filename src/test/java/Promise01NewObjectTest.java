/** Promise 1: the type is clamped into 0 to 3, and first and second are the tables of (0, 0). */
public final class Promise01NewObjectTest {
    private static final int[][] GIVEN_AND_TYPE = {
        {0, 0}, {1, 1}, {2, 2}, {3, 3}, {-1, 0}, {-2, 0}, {4, 3}, {5, 3}, {256, 3}, {-256, 0},
        {Integer.MIN_VALUE, 0}, {Integer.MAX_VALUE, 3},
    };
    private static final int[] MOTIONS = {4, 6, 8, 12};

    public static void main(String[] args) {
        Check check = new Check("promise 1, a new object");
        for (int[] row : GIVEN_AND_TYPE) {
            String name = "new RootWeights(" + row[0] + "): ";
            RootWeights x = new RootWeights(row[0]);
            check.due(name + "orbit(1, 1)", x.orbit(1, 1), MOTIONS[row[1]]);
            check.due(name + "size()", x.size(), 1);
            check.due(name + "most()", x.most(), 1);
            check.due(name + "number(0, 0)", x.number(0, 0), 1);
            check.due(name + "number(1, 0)", x.number(1, 0), 0);
            check.due(name + "kinds()", x.kinds(), 1);
            check.due(name + "total()", x.total(), 1);
            check.due(name + "product(0, 0)", x.product(0, 0), 1);
            check.due(name + "even(0, 0)", x.even(0, 0), 1);
            check.due(name + "odd(0, 0)", x.odd(0, 0), 0);
            check.due(name + "along(0, 0)", x.along(0, 0), 1);
            x.first(1, 2);
            check.due(name + "product(1, 2) with second as it was", x.product(1, 2), 1);
            check.due(name + "kinds() with second as it was", x.kinds(), 1);
            check.due(name + "type(1)", x.type(1), row[1]);
        }
        separateObjects(check);
        check.end();
    }

    private static void separateObjects(Check check) {
        RootWeights one = Check.made(3, new int[] {1, 1}, new int[] {1, 0});
        String before = Check.state(one);
        RootWeights two = new RootWeights(1);
        two.first(3, 3);
        two.second(2, 2);
        check.same("another object changes nothing of this one", Check.state(one), before);
    }
}
