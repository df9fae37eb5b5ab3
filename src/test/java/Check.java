import java.util.function.IntBinaryOperator;

/** Counts the answers of one test, prints the wrong ones, and ends with exit code 1 if there was one. */
final class Check {
    static final int[][] OUTSIDE = {
        {41, 0}, {-41, 0}, {0, 41}, {0, -41}, {41, 41}, {-41, -41}, {41, -41}, {-40, 41}, {41, -40},
        {Integer.MAX_VALUE, 0}, {0, Integer.MAX_VALUE}, {Integer.MIN_VALUE, 0}, {0, Integer.MIN_VALUE},
        {Integer.MIN_VALUE, Integer.MIN_VALUE}, {1 << 16, 1 << 16}, {-1000, 2}, {2, 256},
    };
    static final int[][] NO_TABLE = {
        {4, 0}, {0, 4}, {-1, 0}, {0, -1}, {4, 4}, {-1, -1}, {3, 4}, {4, 3}, {256, 1}, {1, 256},
        {Integer.MAX_VALUE, 0}, {0, Integer.MAX_VALUE}, {Integer.MIN_VALUE, 1}, {1, Integer.MIN_VALUE},
    };
    private static final int PRINTED_AT_MOST = 20;

    private final String what;
    private int made = 0;
    private int wrong = 0;

    Check(String what) {
        this.what = what;
    }

    void due(String call, long got, long want) {
        made++;
        if (got != want) {
            wrong++;
            if (wrong <= PRINTED_AT_MOST) {
                System.out.println(what + ": " + call + " answered " + got + ", due is " + want);
            }
        }
    }

    void holds(String claim, boolean held) {
        due(claim, held ? 1 : 0, 1);
    }

    void same(String claim, String got, String want) {
        holds(claim, got.equals(want));
    }

    /** Every part from -40 to 40 against what is due, and every weight beyond against -1. */
    void everyWeight(String call, IntBinaryOperator got, IntBinaryOperator want) {
        for (int c = -40; c <= 40; c++) {
            for (int d = -40; d <= 40; d++) {
                due(call + "(" + c + ", " + d + ")", got.applyAsInt(c, d), want.applyAsInt(c, d));
            }
        }
        for (int[] weight : OUTSIDE) {
            due(call + "(" + weight[0] + ", " + weight[1] + ")", got.applyAsInt(weight[0], weight[1]), -1);
        }
    }

    void end() {
        System.out.println(what + ": " + made + " answers, " + wrong + " wrong");
        if (wrong != 0) {
            System.exit(1);
        }
    }

    /** All that the face tells of an object's state: two objects that agree here are in the same state. */
    static String state(RootWeights x) {
        StringBuilder text = new StringBuilder();
        text.append(x.orbit(1, 1)).append(' ').append(x.size()).append(' ').append(x.most());
        text.append(' ').append(x.kinds()).append(' ').append(x.total());
        for (int c = -10; c <= 10; c++) {
            for (int d = -16; d <= 16; d++) {
                text.append(' ').append(x.number(c, d)).append(' ').append(x.product(c, d));
            }
        }
        return text.toString();
    }

    static RootWeights made(int type, int a, int b) {
        RootWeights x = new RootWeights(type);
        x.first(a, b);
        return x;
    }

    static RootWeights made(int type, int[] first, int[] second) {
        RootWeights x = made(type, first[0], first[1]);
        x.second(second[0], second[1]);
        return x;
    }

    static String name(int type, int a, int b) {
        return "type " + type + ", table of (" + a + ", " + b + "): ";
    }
}
