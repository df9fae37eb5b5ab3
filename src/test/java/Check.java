import java.util.function.Consumer;
import java.util.function.IntBinaryOperator;
import java.util.function.Supplier;

/**
 * Counts the answers of one test, prints the wrong ones, and ends with exit code 1 if there was one. Nothing is
 * promised of an object after its 512th call, so what asks more than that takes new objects as it goes.
 */
final class Check {
    /** A call that is asked of an object with two numbers. */
    interface Call {
        int of(RootWeights x, int c, int d);
    }

    static final int[][] OUTSIDE = {
        {41, 0}, {-41, 0}, {0, 41}, {0, -41}, {41, 41}, {-41, -41}, {41, -41}, {-40, 41}, {41, -40},
        {Integer.MAX_VALUE, 0}, {0, Integer.MAX_VALUE}, {Integer.MIN_VALUE, 0}, {0, Integer.MIN_VALUE},
        {Integer.MIN_VALUE, Integer.MIN_VALUE}, {1 << 16, 1 << 16}, {-1000, 2}, {2, 256},
    };
    static final int[][] NO_TABLE = {
        {4, 0}, {0, 4}, {-1, 0}, {0, -1}, {4, 4}, {-1, -1}, {3, 4}, {4, 3}, {256, 1}, {1, 256},
        {Integer.MAX_VALUE, 0}, {0, Integer.MAX_VALUE}, {Integer.MIN_VALUE, 1}, {1, Integer.MIN_VALUE},
    };
    // Just below and just above 0 to 3, and numbers that would be within if cut to a byte or a short.
    static final int[] NO_PART_OF_A_TABLE = {
        -1, -2, -4, 4, 5, 7, 256, 257, -254, 65536, 65539, -65533, Integer.MAX_VALUE, Integer.MIN_VALUE,
        Integer.MAX_VALUE - 3, Integer.MIN_VALUE + 3,
    };
    // First's high weight and second's: the least and the greatest that there are, and two between.
    private static final int[][] HELD = {{0, 0, 0, 0}, {1, 0, 0, 2}, {2, 3, 3, 1}, {3, 3, 3, 3}};
    private static final int PRINTED_AT_MOST = 20;
    private static final int ROWS_OF_AN_OBJECT = 6;

    private final String what;
    private int made = 0;
    private int wrong = 0;

    Check(String what) {
        this.what = what;
    }

    void due(String call, long got, long want) {
        made++;
        if (got != want) {
            wrong++;
            if (wrong <= PRINTED_AT_MOST) {
                System.out.println(what + ": " + call + " answered " + got + ", due is " + want);
            }
        }
    }

    void holds(String claim, boolean held) {
        due(claim, held ? 1 : 0, 1);
    }

    void same(String claim, String got, String want) {
        holds(claim, got.equals(want));
    }

    /** Every part from -40 to 40 against what is due, and every weight beyond against -1. */
    void everyWeight(String name, Supplier<RootWeights> fresh, Call call, IntBinaryOperator want) {
        int[][] got = answers(fresh, call);
        for (int c = -40; c <= 40; c++) {
            for (int d = -40; d <= 40; d++) {
                due(name + "(" + c + ", " + d + ")", got[c + 40][d + 40], want.applyAsInt(c, d));
            }
        }
        RootWeights x = fresh.get();
        for (int[] weight : OUTSIDE) {
            due(name + "(" + weight[0] + ", " + weight[1] + ")", call.of(x, weight[0], weight[1]), -1);
        }
    }

    /** Every one of these calls is refused, and calls after it answer as if it had not been made. */
    void refused(String name, Supplier<RootWeights> fresh, Call call, int[][] wrong, int want) {
        String without = later(fresh.get());
        for (int[] row : wrong) {
            RootWeights x = fresh.get();
            due(name + "(" + row[0] + ", " + row[1] + ")", call.of(x, row[0], row[1]), want);
            same("calls after the refused " + name + "(" + row[0] + ", " + row[1] + ")", later(x), without);
        }
    }

    /** The same for objects of every type, with small and great tables. */
    void refusedInEveryState(String name, Call call, int[][] wrong, int want) {
        everyState(fresh -> refused(name, fresh, call, wrong, want));
    }

    static void everyState(Consumer<Supplier<RootWeights>> test) {
        for (int type = 0; type <= 3; type++) {
            int made = type;
            for (int[] held : HELD) {
                test.accept(() -> made(made, new int[] {held[0], held[1]}, new int[] {held[2], held[3]}));
            }
        }
    }

    static int[][] answers(Supplier<RootWeights> fresh, Call call) {
        int[][] got = new int[81][81];
        RootWeights x = fresh.get();
        for (int row = 0; row <= 80; row++) {
            if (row % ROWS_OF_AN_OBJECT == 0) {
                x = fresh.get();
            }
            for (int d = -40; d <= 40; d++) {
                got[row][d + 40] = call.of(x, row - 40, d);
            }
        }
        return got;
    }

    void end() {
        if (!allRight()) {
            System.exit(1);
        }
    }

    /** Tells what came out; a test that asked for nothing is wrong, too. */
    boolean allRight() {
        System.out.println(what + ": " + made + " answers, " + wrong + " wrong");
        return made != 0 && wrong == 0;
    }

    /**
     * Enough to tell an object's state: the orbit tells the type, the highest numbers tell first, and the highest
     * tables in the product tell second.
     */
    static String state(RootWeights x) {
        StringBuilder text = new StringBuilder();
        text.append(x.orbit(1, 1)).append(' ').append(x.size()).append(' ').append(x.most());
        text.append(' ').append(x.kinds()).append(' ').append(x.total());
        for (int c = 0; c <= 6; c++) {
            for (int d = 0; d <= 6; d++) {
                text.append(' ').append(x.number(c, d)).append(' ').append(x.product(c, d));
            }
        }
        return text.toString();
    }

    /**
     * What an object answers from here on, to every sort of call: its state, what else is asked of it, and what
     * comes when type, first and second change. Some 190 calls.
     */
    static String later(RootWeights x) {
        StringBuilder text = new StringBuilder(state(x));
        for (int c = 0; c <= 3; c++) {
            for (int d = 0; d <= 3; d++) {
                text.append(' ').append(x.even(c, d)).append(' ').append(x.odd(c, d));
                text.append(' ').append(x.high(-c, d - 2));
            }
        }
        for (int k = 0; k <= 6; k++) {
            text.append(' ').append(x.along(0, k)).append(' ').append(x.along(1, k));
        }
        for (int type = 3; type >= 0; type--) {
            text.append(' ').append(x.type(type)).append(' ').append(x.size()).append(' ').append(x.total());
        }
        text.append(' ').append(x.first(1, 2)).append(' ').append(x.total());
        text.append(' ').append(x.second(2, 1)).append(' ').append(x.total());
        return text.toString();
    }

    static RootWeights made(int type, int a, int b) {
        RootWeights x = new RootWeights(type);
        x.first(a, b);
        return x;
    }

    static Supplier<RootWeights> maker(int type, int a, int b) {
        return () -> made(type, a, b);
    }

    static RootWeights made(int type, int[] first, int[] second) {
        RootWeights x = made(type, first[0], first[1]);
        x.second(second[0], second[1]);
        return x;
    }

    /** Each of these numbers as one part of a pair, with each of the others as the other part. */
    static int[][] paired(int[] numbers, boolean asFirstPart, int... others) {
        int[][] pairs = new int[numbers.length * others.length][];
        for (int i = 0; i < pairs.length; i++) {
            int number = numbers[i / others.length];
            int other = others[i % others.length];
            pairs[i] = asFirstPart ? new int[] {number, other} : new int[] {other, number};
        }
        return pairs;
    }

    static String name(int type, int a, int b) {
        return "type " + type + ", table of (" + a + ", " + b + "): ";
    }
}
