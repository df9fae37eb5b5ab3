/** Promise 6: the sum of all numbers in first, against Weyl's formulas for it. */
public final class Promise06SizeTest {
    public static void main(String[] args) {
        Check check = new Check("promise 6, size");
        for (int type = 0; type <= 3; type++) {
            check.due("a new object's size()", new RootWeights(type).size(), 1);
            for (int a = 0; a <= 3; a++) {
                for (int b = 0; b <= 3; b++) {
                    RootWeights x = Check.made(type, a, b);
                    check.due(Check.name(type, a, b) + "size()", x.size(), formula(type, a + 1, b + 1));
                    x.second(3, 3);
                    check.due(Check.name(type, a, b) + "size() after second", x.size(), formula(type, a + 1, b + 1));
                }
            }
        }
        check.end();
    }

    private static int formula(int type, int x, int y) {
        switch (type) {
            case 0:
                return x * y;
            case 1:
                return x * y * (x + y) / 2;
            case 2:
                return x * y * (x + y) * (2 * x + y) / 6;
            default:
                return x * y * (x + y) * (2 * x + y) * (3 * x + y) * (3 * x + 2 * y) / 120;
        }
    }
}
