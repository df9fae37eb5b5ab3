/** Promise 4: second becomes the table of (a, b); the answer counts its weights with a number other than 0. */
public final class Promise04SecondTest {
    public static void main(String[] args) {
        Check check = new Check("promise 4, second");
        for (int type = 0; type <= 3; type++) {
            RootWeights x = new RootWeights(type);
            x.first(2, 1);
            Model model = new Model(type);
            model.first(2, 1);
            for (int a = 0; a <= 3; a++) {
                for (int b = 0; b <= 3; b++) {
                    String name = Check.name(type, a, b);
                    check.due(name + "second", x.second(a, b), model.second(a, b));
                    check.due(name + "product at the top", x.product(a + 2, b + 1), 1);
                    check.due(name + "total()", x.total(), model.total());
                    check.due(name + "size(), first as it was", x.size(), model.size());
                    check.due(name + "second again", x.second(a, b), model.second(a, b));
                }
            }
            int made = type;
            check.refused("second", () -> Check.made(made, new int[] {2, 1}, new int[] {1, 2}),
                    RootWeights::second, Check.NO_TABLE, -1);
        }
        known(check);
        check.end();
    }

    private static void known(Check check) {
        check.due("type 0, second(3, 3)", new RootWeights(0).second(3, 3), 16);
        check.due("type 1, second(0, 1)", new RootWeights(1).second(0, 1), 3);
        check.due("type 2, second(1, 0)", new RootWeights(2).second(1, 0), 5);
        check.due("type 2, second(3, 3)", new RootWeights(2).second(3, 3), 76);
        check.due("type 3, second(0, 1)", new RootWeights(3).second(0, 1), 7);
    }
}
