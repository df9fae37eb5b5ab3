/** Promise 10: how often the table of (c, d) is in the product of first and second. */
public final class Promise10ProductTest {
    public static void main(String[] args) {
        Check check = new Check("promise 10, product");
        for (int type = 0; type <= 3; type++) {
            for (int pair = 0; pair < 256; pair++) {
                products(check, type, new int[] {pair / 64, pair / 16 % 4}, new int[] {pair / 4 % 4, pair % 4});
            }
        }
        known(check);
        check.end();
    }

    private static void products(Check check, int type, int[] first, int[] second) {
        Model model = new Model(type);
        model.first(first[0], first[1]);
        model.second(second[0], second[1]);
        String name = Check.name(type, first[0], first[1]) + "second of (" + second[0] + ", " + second[1] + "): ";
        check.everyWeight(name + "product", () -> Check.made(type, first, second),
                RootWeights::product, model::product);
    }

    private static void known(Check check) {
        RootWeights x = Check.made(1, new int[] {1, 0}, new int[] {0, 1});
        check.due("type 1, (1, 0) and (0, 1): product(0, 0)", x.product(0, 0), 1);
        check.due("type 1, (1, 0) and (0, 1): product(1, 1)", x.product(1, 1), 1);
        check.due("not high: product(-1, 0)", x.product(-1, 0), 0);
        check.due("not high: product(-2, 1)", x.product(-2, 1), 0);
        check.due("not high: product(-40, 40)", x.product(-40, 40), 0);
        check.due("beyond and not high: product(-41, 0)", x.product(-41, 0), -1);
        check.due("beyond and not high: product(-1, 41)", x.product(-1, 41), -1);
        x = Check.made(3, new int[] {3, 3}, new int[] {3, 3});
        check.due("type 3, (3, 3) twice: product(6, 6)", x.product(6, 6), 1);
        check.due("type 3, (3, 3) twice: product(0, 0)", x.product(0, 0), 1);
    }
}
