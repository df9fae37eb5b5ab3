/** "(c, d) is not high: 0.", of the promises 10, 13 and 14, and what comes ahead of it. */
public final class BoundaryNotHighTest {
    public static void main(String[] args) {
        Sentences promises = new Sentences("promises 10, 13, 14");
        one(promises, "product", RootWeights::product);
        one(promises, "even", RootWeights::even);
        one(promises, "odd", RootWeights::odd);
        promises.end();
    }

    private static void one(Sentences promises, String name, Check.Call call) {
        String sentence = name + ": (c, d) is not high: 0 (";
        promises.test(sentence + "c below 0)", check -> notHigh(check, name, call, -40, -1, -40, 40));
        promises.test(sentence + "d below 0)", check -> notHigh(check, name, call, -40, 40, -40, -1));
        promises.test(sentence + "a high one is told, at 0 too)", check -> high(check, name, call));
        promises.test(sentence + "a part beyond 40 is looked at before)", check -> order(check, name, call));
        promises.test(sentence + "nothing changes)", check -> nothingChanges(check, name, call));
    }

    /** First is second, so that all three calls have tables to tell of near both edges. */
    private static RootWeights full(int type) {
        return Check.made(type, new int[] {3, 3}, new int[] {3, 3});
    }

    private static void notHigh(Check check, String name, Check.Call call, int c1, int c2, int d1, int d2) {
        for (int type = 0; type <= 3; type++) {
            int made = type;
            int[][] got = Check.answers(() -> full(made), call);
            for (int c = c1; c <= c2; c++) {
                for (int d = d1; d <= d2; d++) {
                    check.due("type " + type + ", " + name + "(" + c + ", " + d + ")", got[c + 40][d + 40], 0);
                }
            }
        }
    }

    private static void high(Check check, String name, Check.Call call) {
        switch (name) {
            case "product":
                told(check, name, call, 1, 0, 0, 1);
                told(check, name, call, 1, 0, 3, 1);
                told(check, name, call, 1, 3, 0, 1);
                told(check, name, call, 3, 0, 0, 1);
                break;
            case "even":
                told(check, name, call, 1, 0, 0, 1);
                told(check, name, call, 1, 3, 0, 0);
                told(check, name, call, 3, 0, 0, 1);
                told(check, name, call, 3, 0, 2, 1);
                break;
            default:
                told(check, name, call, 1, 0, 0, 0);
                told(check, name, call, 1, 3, 0, 1);
                told(check, name, call, 1, 0, 3, 1);
                told(check, name, call, 3, 1, 0, 1);
                break;
        }
    }

    /** At type 1 the tables of (1, 1), of 8, with 64 = 1 + 8 + 8 + 10 + 10 + 27; at type 3 those of (0, 1), of 7. */
    private static void told(Check check, String name, Check.Call call, int type, int c, int d, int want) {
        int[] top = type == 1 ? new int[] {1, 1} : new int[] {0, 1};
        RootWeights x = Check.made(type, top, top);
        check.due("type " + type + ", " + name + "(" + c + ", " + d + ")", call.of(x, c, d), want);
        check.due("type " + type + ", " + name + "(-1, " + d + ")", call.of(x, -1, d), 0);
        check.due("type " + type + ", " + name + "(" + c + ", -1)", call.of(x, c, -1), 0);
    }

    private static void order(Check check, String name, Check.Call call) {
        for (int type = 0; type <= 3; type++) {
            RootWeights x = full(type);
            String row = "type " + type + ", " + name;
            check.due(row + "(-40, 0)", call.of(x, -40, 0), 0);
            check.due(row + "(-41, 0)", call.of(x, -41, 0), -1);
            check.due(row + "(0, -40)", call.of(x, 0, -40), 0);
            check.due(row + "(0, -41)", call.of(x, 0, -41), -1);
            check.due(row + "(-1, 40)", call.of(x, -1, 40), 0);
            check.due(row + "(-1, 41)", call.of(x, -1, 41), -1);
            check.due(row + "(40, -1)", call.of(x, 40, -1), 0);
            check.due(row + "(41, -1)", call.of(x, 41, -1), -1);
            check.due(row + "(-1, -1)", call.of(x, -1, -1), 0);
            check.due(row + "(-41, -1)", call.of(x, -41, -1), -1);
        }
    }

    private static void nothingChanges(Check check, String name, Check.Call call) {
        int[][] notHigh = {{-1, 0}, {0, -1}, {-1, -1}, {-40, 40}, {40, -40}, {-2, 3}, {3, -2}};
        check.refusedInEveryState(name, call, notHigh, 0);
    }
}
