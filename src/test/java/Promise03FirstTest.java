/** Promise 3: first becomes the table of (a, b); the answer counts its weights with a number other than 0. */
public final class Promise03FirstTest {
    public static void main(String[] args) {
        Check check = new Check("promise 3, first");
        for (int type = 0; type <= 3; type++) {
            RootWeights x = new RootWeights(type);
            x.second(1, 2);
            Model model = new Model(type);
            model.second(1, 2);
            for (int a = 0; a <= 3; a++) {
                for (int b = 0; b <= 3; b++) {
                    String name = Check.name(type, a, b);
                    check.due(name + "first", x.first(a, b), model.first(a, b));
                    check.due(name + "number(a, b)", x.number(a, b), 1);
                    check.due(name + "size()", x.size(), model.size());
                    check.due(name + "total(), second as it was", x.total(), model.total());
                    check.due(name + "first again", x.first(a, b), model.first(a, b));
                }
            }
            x.first(0, 0);
            check.due("nothing is left of an earlier table", x.size(), 1);
            int made = type;
            check.refused("first", () -> Check.made(made, new int[] {2, 1}, new int[] {1, 2}),
                    RootWeights::first, Check.NO_TABLE, -1);
        }
        known(check);
        check.end();
    }

    private static void known(Check check) {
        check.due("type 0, first(1, 0)", new RootWeights(0).first(1, 0), 2);
        check.due("type 0, first(2, 3)", new RootWeights(0).first(2, 3), 12);
        check.due("type 1, first(1, 0)", new RootWeights(1).first(1, 0), 3);
        check.due("type 1, first(1, 1)", new RootWeights(1).first(1, 1), 7);
        check.due("type 2, first(1, 0)", new RootWeights(2).first(1, 0), 5);
        check.due("type 2, first(0, 1)", new RootWeights(2).first(0, 1), 4);
        check.due("type 3, first(0, 1)", new RootWeights(3).first(0, 1), 7);
        check.due("type 3, first(1, 0)", new RootWeights(3).first(1, 0), 13);
        check.due("type 3, first(3, 3)", new RootWeights(3).first(3, 3), 235);
    }
}
