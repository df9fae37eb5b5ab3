import java.util.function.Supplier;

/** Promise 14: how often the table of (c, d) is in the odd half of the product of first with itself. */
public final class Promise14OddTest {
    public static void main(String[] args) {
        Check check = new Check("promise 14, odd");
        for (int type = 0; type <= 3; type++) {
            for (int a = 0; a <= 3; a++) {
                for (int b = 0; b <= 3; b++) {
                    RootWeights x = Check.made(type, a, b);
                    x.second(1, 2);
                    Model model = new Model(type);
                    model.first(a, b);
                    Supplier<RootWeights> fresh = Check.maker(type, a, b);
                    check.everyWeight(Check.name(type, a, b) + "odd", fresh, RootWeights::odd, model::odd);
                    check.due(Check.name(type, a, b) + "odd at the top", x.odd(2 * a, 2 * b), 0);
                }
            }
        }
        known(check);
        check.end();
    }

    private static void known(Check check) {
        RootWeights x = Check.made(1, 1, 1);
        check.due("type 1, (1, 1): odd(0, 0)", x.odd(0, 0), 0);
        check.due("type 1, (1, 1): odd(1, 1)", x.odd(1, 1), 1);
        check.due("type 1, (1, 1): odd(3, 0)", x.odd(3, 0), 1);
        check.due("type 1, (1, 1): odd(0, 3)", x.odd(0, 3), 1);
        check.due("not high: odd(-1, 2)", x.odd(-1, 2), 0);
        check.due("not high: odd(2, -1)", x.odd(2, -1), 0);
        check.due("beyond and not high: odd(0, -41)", x.odd(0, -41), -1);
        x = Check.made(2, 0, 1);
        check.due("type 2, (0, 1): odd(0, 0)", x.odd(0, 0), 1);
        check.due("type 2, (0, 1): odd(1, 0)", x.odd(1, 0), 1);
    }
}
