/** Promise 15: the sum over part i being k, less the sum over part i being k + 2; -1 and -2 in that order. */
public final class Promise15AlongTest {
    private static final int[] NO_PART = {-1, 2, 3, 256, Integer.MIN_VALUE, Integer.MAX_VALUE};
    private static final int[] NO_LINE = {-1, -2, -40, 41, 42, 256, Integer.MIN_VALUE, Integer.MAX_VALUE};

    public static void main(String[] args) {
        Check check = new Check("promise 15, along");
        for (int type = 0; type <= 3; type++) {
            for (int a = 0; a <= 3; a++) {
                for (int b = 0; b <= 3; b++) {
                    RootWeights x = Check.made(type, a, b);
                    Model model = new Model(type);
                    model.first(a, b);
                    for (int k = 0; k <= 40; k++) {
                        String name = Check.name(type, a, b) + "along(.., " + k + "), part ";
                        check.due(name + 0, x.along(0, k), model.along(0, k));
                        check.due(name + 1, x.along(1, k), model.along(1, k));
                    }
                    refuse(check, x);
                }
            }
        }
        check.due("type 3, (3, 3): along(1, 15)", Check.made(3, 3, 3).along(1, 15), 4);
        check.due("type 3, (3, 3): along(1, 16)", Check.made(3, 3, 3).along(1, 16), 0);
        check.end();
    }

    private static void refuse(Check check, RootWeights x) {
        for (int i : NO_PART) {
            check.due("along(" + i + ", 0)", x.along(i, 0), -1);
            for (int k : NO_LINE) {
                check.due("along(" + i + ", " + k + ")", x.along(i, k), -1);
            }
        }
        for (int k : NO_LINE) {
            check.due("along(0, " + k + ")", x.along(0, k), -2);
            check.due("along(1, " + k + ")", x.along(1, k), -2);
        }
    }
}
