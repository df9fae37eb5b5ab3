/** Promise 10: how often the table of (c, d) is in the product of first and second. */
public final class Promise10ProductTest {
    public static void main(String[] args) {
        Check check = new Check("promise 10, product");
        for (int type = 0; type <= 3; type++) {
            RootWeights x = new RootWeights(type);
            Model model = new Model(type);
            for (int pair = 0; pair < 256; pair++) {
                int a = pair / 64;
                int b = pair / 16 % 4;
                x.first(a, b);
                model.first(a, b);
                x.second(pair / 4 % 4, pair % 4);
                model.second(pair / 4 % 4, pair % 4);
                String name = Check.name(type, a, b) + "second of (" + pair / 4 % 4 + ", " + pair % 4 + "): ";
                check.everyWeight(name + "product", x::product, model::product);
            }
        }
        known(check);
        check.end();
    }

    private static void known(Check check) {
        RootWeights x = Check.made(1, new int[] {1, 0}, new int[] {0, 1});
        check.due("type 1, (1, 0) and (0, 1): product(0, 0)", x.product(0, 0), 1);
        check.due("type 1, (1, 0) and (0, 1): product(1, 1)", x.product(1, 1), 1);
        check.due("not high: product(-1, 0)", x.product(-1, 0), 0);
        check.due("not high: product(-2, 1)", x.product(-2, 1), 0);
        check.due("not high: product(-40, 40)", x.product(-40, 40), 0);
        check.due("beyond and not high: product(-41, 0)", x.product(-41, 0), -1);
        check.due("beyond and not high: product(-1, 41)", x.product(-1, 41), -1);
        x = Check.made(3, new int[] {3, 3}, new int[] {3, 3});
        check.due("type 3, (3, 3) twice: product(6, 6)", x.product(6, 6), 1);
        check.due("type 3, (3, 3) twice: product(0, 0)", x.product(0, 0), 1);
    }
}
