/** What the document says of motions at the edges between high weights and others, by way of promises 8 and 9. */
public final class BoundaryMotionsTest {
    private static final int[] MOTIONS = {4, 6, 8, 12};
    private static final int[] P = {0, -1, -2, -3};
    private static final int[] Q = {0, -1, -1, -1};

    public static void main(String[] args) {
        Sentences terms = new Sentences("terms, promises 8 and 9");
        terms.test("there are 4, 6, 8 and 12 of them", BoundaryMotionsTest::howMany);
        terms.test("any number of them (none, too)", BoundaryMotionsTest::noTurns);
        terms.test("HIGH if a and b are 0 or more", BoundaryMotionsTest::besideTheEdge);
        terms.test("Every weight is taken to just one high weight by motions", BoundaryMotionsTest::justOne);
        terms.test("How many different weights motions take (c, d) to", BoundaryMotionsTest::different);
        terms.test("1000 * e + f", BoundaryMotionsTest::thousands);
        terms.end();
    }

    private static void howMany(Check check) {
        for (int type = 0; type <= 3; type++) {
            RootWeights x = new RootWeights(type);
            check.due("type " + type + ", orbit(1, 1)", x.orbit(1, 1), MOTIONS[type]);
            check.due("type " + type + ", orbit(40, 40)", x.orbit(40, 40), MOTIONS[type]);
            check.due("type " + type + ", orbit(-40, -40)", x.orbit(-40, -40), MOTIONS[type]);
        }
    }

    private static void noTurns(Check check) {
        for (int type = 0; type <= 3; type++) {
            int made = type;
            int[][] high = Check.answers(() -> new RootWeights(made), RootWeights::high);
            for (int c = 0; c <= 40; c++) {
                for (int d = 0; d <= 40; d++) {
                    check.due("type " + type + ", high(" + c + ", " + d + ")", high[c + 40][d + 40], 1000 * c + d);
                }
            }
        }
    }

    /** One turn takes (-1, k) and (k, -1) to a high weight, if k is great enough. */
    private static void besideTheEdge(Check check) {
        for (int type = 0; type <= 3; type++) {
            RootWeights x = new RootWeights(type);
            check.due("type " + type + ", high(0, 0)", x.high(0, 0), 0);
            for (int k = 3; k <= 40; k++) {
                String name = "type " + type + ", k = " + k + ": high";
                check.due(name + "(0, k)", x.high(0, k), k);
                check.due(name + "(-1, k)", x.high(-1, k), 1000 + k + P[type]);
                check.due(name + "(k, 0)", x.high(k, 0), 1000 * k);
                check.due(name + "(k, -1)", x.high(k, -1), 1000 * (k + Q[type]) + 1);
            }
        }
        check.due("type 0, high(-1, 0)", new RootWeights(0).high(-1, 0), 1000);
        check.due("type 1, high(-1, 0)", new RootWeights(1).high(-1, 0), 1);
        check.due("type 2, high(-1, 0)", new RootWeights(2).high(-1, 0), 1000);
        check.due("type 3, high(0, -1)", new RootWeights(3).high(0, -1), 1);
    }

    private static void justOne(Check check) {
        for (int type = 0; type <= 3; type++) {
            int made = type;
            int[][] high = Check.answers(() -> new RootWeights(made), RootWeights::high);
            int[][] orbit = Check.answers(() -> new RootWeights(made), RootWeights::orbit);
            for (int c = -40; c <= 40; c++) {
                for (int d = -40; d <= 40; d++) {
                    check.holds("(" + c + ", " + d + ") has a high weight", high[c + 40][d + 40] >= 0);
                    afterTurn(check, "high", high, type, c, d);
                    afterTurn(check, "orbit", orbit, type, c, d);
                }
            }
        }
    }

    private static void afterTurn(Check check, String name, int[][] got, int type, int c, int d) {
        for (int which = 0; which < 2; which++) {
            Model.Weight v = Model.turn(type, which, new Model.Weight(c, d));
            if (Math.abs(v.a()) <= 40 && Math.abs(v.b()) <= 40) {
                String row = "type " + type + ", " + name + " of " + v + ", a turn away from (" + c + ", " + d + ")";
                check.due(row, got[v.a() + 40][v.b() + 40], got[c + 40][d + 40]);
            }
        }
    }

    /** All motions lead to different weights but from an edge, where two each lead to one, and from (0, 0). */
    private static void different(Check check) {
        for (int type = 0; type <= 3; type++) {
            int made = type;
            int[][] high = Check.answers(() -> new RootWeights(made), RootWeights::high);
            int[][] orbit = Check.answers(() -> new RootWeights(made), RootWeights::orbit);
            for (int c = -40; c <= 40; c++) {
                for (int d = -40; d <= 40; d++) {
                    int top = high[c + 40][d + 40];
                    boolean atEdge = top / 1000 == 0 || top % 1000 == 0;
                    int want = top == 0 ? 1 : atEdge ? MOTIONS[type] / 2 : MOTIONS[type];
                    check.due("type " + type + ", orbit(" + c + ", " + d + ")", orbit[c + 40][d + 40], want);
                }
            }
            check.due("type " + type + ", orbit(0, 0)", new RootWeights(type).orbit(0, 0), 1);
            check.due("type " + type + ", orbit(0, 1)", new RootWeights(type).orbit(0, 1), MOTIONS[type] / 2);
            check.due("type " + type + ", orbit(-40, 0)", new RootWeights(type).orbit(-40, 0), MOTIONS[type] / 2);
        }
    }

    private static void thousands(Check check) {
        check.due("type 0, high(0, 40)", new RootWeights(0).high(0, 40), 40);
        check.due("type 0, high(-40, 0)", new RootWeights(0).high(-40, 0), 40000);
        check.due("type 0, high(-40, -40)", new RootWeights(0).high(-40, -40), 40040);
        check.due("type 1, high(-40, 40)", new RootWeights(1).high(-40, 40), 40000);
        check.due("type 2, high(40, -40)", new RootWeights(2).high(40, -40), 40);
        check.due("type 3, high(-40, 40)", new RootWeights(3).high(-40, 40), 40);
        check.due("type 1, high(-40, -40)", new RootWeights(1).high(-40, -40), 40040);
    }
}
