import java.util.function.Supplier;

/** Promise 13: how often the table of (c, d) is in the even half of the product of first with itself. */
public final class Promise13EvenTest {
    public static void main(String[] args) {
        Check check = new Check("promise 13, even");
        for (int type = 0; type <= 3; type++) {
            for (int a = 0; a <= 3; a++) {
                for (int b = 0; b <= 3; b++) {
                    RootWeights x = Check.made(type, a, b);
                    x.second(1, 2);
                    Model model = new Model(type);
                    model.first(a, b);
                    Supplier<RootWeights> fresh = Check.maker(type, a, b);
                    check.everyWeight(Check.name(type, a, b) + "even", fresh, RootWeights::even, model::even);
                    check.due(Check.name(type, a, b) + "even at the top", x.even(2 * a, 2 * b), 1);
                }
            }
        }
        known(check);
        check.end();
    }

    private static void known(Check check) {
        RootWeights x = Check.made(1, 1, 1);
        check.due("type 1, (1, 1): even(0, 0)", x.even(0, 0), 1);
        check.due("type 1, (1, 1): even(1, 1)", x.even(1, 1), 1);
        check.due("type 1, (1, 1): even(2, 2)", x.even(2, 2), 1);
        check.due("type 1, (1, 1): even(3, 0)", x.even(3, 0), 0);
        check.due("not high: even(-1, 2)", x.even(-1, 2), 0);
        check.due("not high: even(2, -1)", x.even(2, -1), 0);
        check.due("beyond and not high: even(-41, 0)", x.even(-41, 0), -1);
        x = Check.made(2, 0, 1);
        check.due("type 2, (0, 1): even(0, 2)", x.even(0, 2), 1);
        check.due("type 2, (0, 1): even(0, 0)", x.even(0, 0), 0);
    }
}
