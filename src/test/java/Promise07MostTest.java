/** Promise 7: the greatest number in first. */
public final class Promise07MostTest {
    public static void main(String[] args) {
        Check check = new Check("promise 7, most");
        for (int type = 0; type <= 3; type++) {
            check.due("a new object's most()", new RootWeights(type).most(), 1);
            for (int a = 0; a <= 3; a++) {
                for (int b = 0; b <= 3; b++) {
                    RootWeights x = Check.made(type, a, b);
                    Model model = new Model(type);
                    model.first(a, b);
                    check.due(Check.name(type, a, b) + "most()", x.most(), model.most());
                    x.second(3, 3);
                    check.due(Check.name(type, a, b) + "most() after second", x.most(), model.most());
                }
            }
        }
        check.due("type 0, (3, 3)", Check.made(0, 3, 3).most(), 1);
        check.due("type 1, (2, 2)", Check.made(1, 2, 2).most(), 3);
        check.due("type 1, (3, 0)", Check.made(1, 3, 0).most(), 1);
        check.due("type 2, (2, 3)", Check.made(2, 2, 3).most(), 6);
        check.due("type 3, (3, 3)", Check.made(3, 3, 3).most(), 64);
        check.end();
    }
}
