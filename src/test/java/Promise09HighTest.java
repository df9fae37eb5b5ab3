/** Promise 9: the high weight (e, f) that motions take (c, d) to, as 1000 * e + f. */
public final class Promise09HighTest {
    public static void main(String[] args) {
        Check check = new Check("promise 9, high");
        for (int type = 0; type <= 3; type++) {
            RootWeights x = new RootWeights(type);
            Model model = new Model(type);
            String name = "type " + type + ": ";
            check.everyWeight(name + "high", Check.maker(type, 1, 2), RootWeights::high, model::high);
            check.due(name + "high(0, 0)", x.high(0, 0), 0);
            check.due(name + "high(40, 40)", x.high(40, 40), 40040);
            check.due(name + "high(-40, -40)", x.high(-40, -40), 40040);
            check.due(name + "high(0, 40)", x.high(0, 40), 40);
            check.due(name + "high(40, 0)", x.high(40, 0), 40000);
        }
        check.due("type 0: high(-3, 4)", new RootWeights(0).high(-3, 4), 3004);
        check.due("type 1: high(-1, 0)", new RootWeights(1).high(-1, 0), 1);
        check.due("type 1: high(-3, 1)", new RootWeights(1).high(-3, 1), 1002);
        check.due("type 2: high(40, -40)", new RootWeights(2).high(40, -40), 40);
        check.end();
    }
}
