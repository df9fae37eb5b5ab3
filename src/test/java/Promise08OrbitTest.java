/** Promise 8: how many different weights motions take (c, d) to. */
public final class Promise08OrbitTest {
    private static final int[] MOTIONS = {4, 6, 8, 12};

    public static void main(String[] args) {
        Check check = new Check("promise 8, orbit");
        for (int type = 0; type <= 3; type++) {
            RootWeights x = new RootWeights(type);
            Model model = new Model(type);
            String name = "type " + type + ": ";
            check.everyWeight(name + "orbit", Check.maker(type, 1, 2), RootWeights::orbit, model::orbit);
            check.due(name + "orbit(0, 0)", x.orbit(0, 0), 1);
            check.due(name + "orbit(0, 7)", x.orbit(0, 7), MOTIONS[type] / 2);
            check.due(name + "orbit(40, 0)", x.orbit(40, 0), MOTIONS[type] / 2);
            check.due(name + "orbit(40, 40)", x.orbit(40, 40), MOTIONS[type]);
            check.due(name + "orbit(-40, -40)", x.orbit(-40, -40), MOTIONS[type]);
        }
        check.due("type 1: orbit(3, -3)", new RootWeights(1).orbit(3, -3), 3);
        check.due("type 2: orbit(1, -1)", new RootWeights(2).orbit(1, -1), 4);
        check.due("type 0: orbit(3, -3)", new RootWeights(0).orbit(3, -3), 4);
        check.end();
    }
}
