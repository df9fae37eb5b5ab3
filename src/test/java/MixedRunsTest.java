/** Runs of 512 calls of all sorts, right and wrong ones mixed, each answer against the model's. */
public final class MixedRunsTest {
    private static final int RUNS = 60;
    private static final int CALLS = 512;
    private static long seed = 20261115L;

    public static void main(String[] args) {
        Check check = new Check("mixed runs");
        for (int run = 0; run < RUNS; run++) {
            int type = from(-2, 5);
            RootWeights x = new RootWeights(type);
            Model model = new Model(type);
            for (int call = 0; call < CALLS; call++) {
                oneCall(check, "run " + run + ", call " + call + ": ", x, model);
            }
        }
        check.end();
    }

    private static void oneCall(Check check, String name, RootWeights x, Model model) {
        int a = from(-1, 4);
        int b = from(-1, 4);
        int c = weightPart();
        int d = weightPart();
        switch (from(0, 13)) {
            case 0: check.due(name + "type", x.type(a), model.type(a)); break;
            case 1: check.due(name + "first", x.first(a, b), model.first(a, b)); break;
            case 2: check.due(name + "second", x.second(a, b), model.second(a, b)); break;
            case 3: check.due(name + "number", x.number(c, d), model.number(c, d)); break;
            case 4: check.due(name + "size", x.size(), model.size()); break;
            case 5: check.due(name + "most", x.most(), model.most()); break;
            case 6: check.due(name + "orbit", x.orbit(c, d), model.orbit(c, d)); break;
            case 7: check.due(name + "high", x.high(c, d), model.high(c, d)); break;
            case 8: check.due(name + "product", x.product(c, d), model.product(c, d)); break;
            case 9: check.due(name + "kinds", x.kinds(), model.kinds()); break;
            case 10: check.due(name + "total", x.total(), model.total()); break;
            case 11: check.due(name + "even", x.even(c, d), model.even(c, d)); break;
            case 12: check.due(name + "odd", x.odd(c, d), model.odd(c, d)); break;
            default: check.due(name + "along", x.along(a, c), model.along(a, c)); break;
        }
    }

    /** Mostly near the middle, where numbers are not 0; at times at the edges and beyond. */
    private static int weightPart() {
        return from(0, 4) == 0 ? from(-43, 43) : from(-3, 9);
    }

    private static int from(int least, int greatest) {
        seed = seed * 6364136223846793005L + 1442695040888963407L;
        return least + (int) ((seed >>> 33) % (greatest - least + 1));
    }
}
