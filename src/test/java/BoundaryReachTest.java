import java.util.function.IntBinaryOperator;

/** "A part of a weight (c, d) that is not -40 to 40: -1.", for each of the calls that take a weight. */
public final class BoundaryReachTest {
    // Far ones among them, that a sum that wraps around or a number cut short would bring within.
    private static final int[] TOO_SMALL = {
        -41, -42, -80, -81, -82, -256, -65536, -1 << 30, Integer.MIN_VALUE + 40, Integer.MIN_VALUE,
    };
    private static final int[] TOO_LARGE = {
        41, 42, 80, 81, 82, 256, 65536, 1 << 30, Integer.MAX_VALUE - 40, Integer.MAX_VALUE,
    };
    private static final int[] WITHIN = {-40, 1, 40};

    public static void main(String[] args) {
        Sentences terms = new Sentences("terms");
        both(terms, "number", RootWeights::number, model -> model::number);
        both(terms, "orbit", RootWeights::orbit, model -> model::orbit);
        both(terms, "high", RootWeights::high, model -> model::high);
        both(terms, "product", RootWeights::product, model -> model::product);
        both(terms, "even", RootWeights::even, model -> model::even);
        both(terms, "odd", RootWeights::odd, model -> model::odd);
        terms.end();
    }

    private interface Answers {
        IntBinaryOperator of(Model model);
    }

    private static void both(Sentences terms, String name, Check.Call call, Answers want) {
        String sentence = "A part of a weight (c, d) that is not -40 to 40: -1 (" + name;
        terms.test(sentence + ", c too small)", check -> beyond(check, name, call, TOO_SMALL, true));
        terms.test(sentence + ", c too large)", check -> beyond(check, name, call, TOO_LARGE, true));
        terms.test(sentence + ", d too small)", check -> beyond(check, name, call, TOO_SMALL, false));
        terms.test(sentence + ", d too large)", check -> beyond(check, name, call, TOO_LARGE, false));
        terms.test(sentence + ", both beyond)", check -> bothBeyond(check, name, call));
        terms.test(sentence + ", just within)", check -> within(check, name, call, want));
    }

    private static void beyond(Check check, String name, Check.Call call, int[] wrong, boolean isC) {
        check.refusedInEveryState(name, call, Check.paired(wrong, isC, WITHIN), -1);
    }

    private static void bothBeyond(Check check, String name, Check.Call call) {
        int[][] wrong = {{41, 41}, {-41, -41}, {41, -41}, {-41, 41}, {Integer.MIN_VALUE, Integer.MAX_VALUE}};
        check.refusedInEveryState(name, call, wrong, -1);
    }

    /** All weights with a part of 40 or -40: each has an answer of its own, and none is -1. */
    private static void within(Check check, String name, Check.Call call, Answers want) {
        for (int type = 0; type <= 3; type++) {
            RootWeights x = Check.made(type, 3, 3);
            Model model = new Model(type);
            model.first(3, 3);
            for (int edge = -40; edge <= 40; edge += 80) {
                for (int other = -40; other <= 40; other++) {
                    String row = "type " + type + ", " + name;
                    check.due(row + "(" + edge + ", " + other + ")", call.of(x, edge, other),
                            want.of(model).applyAsInt(edge, other));
                    check.due(row + "(" + other + ", " + edge + ")", call.of(x, other, edge),
                            want.of(model).applyAsInt(other, edge));
                }
            }
        }
    }
}
