/**
 * Tables of whole numbers on a plane lattice that are as symmetric as can be,
 * their products, and what these are made of.
 */
public final class RootWeights {
    private static final int TOP_TYPE = 3;
    private static final int TOP_PART = 3;
    private static final int REACH = 40;
    private static final int MOST_MOTIONS = 12;

    // The farthest part of a weight with a number other than 0 is 15 (type 3, the table of (3, 3)).
    private static final int EDGE = 20;
    private static final int SIDE = 2 * EDGE + 1;
    private static final int CELLS = SIDE * SIDE;

    // The lowest weight of a table is at most 18 times (2, p) and 30 times (q, 2) below its high weight
    // (type 3, the table of (3, 3)).
    private static final int FIRST_STEPS = 18;
    private static final int SECOND_STEPS = 30;

    private int typeNow;
    private int p;
    private int q;

    // Motion k takes (a, b) to (firstByA[k] * a + firstByB[k] * b, secondByA[k] * a + secondByB[k] * b).
    private int motions;
    private final int[] firstByA = new int[MOST_MOTIONS];
    private final int[] firstByB = new int[MOST_MOTIONS];
    private final int[] secondByA = new int[MOST_MOTIONS];
    private final int[] secondByB = new int[MOST_MOTIONS];

    private int firstA;
    private int firstB;
    private final int[] firstNumbers = new int[CELLS];

    // A product asks for no more of second than its high weight, so its numbers are laid out just to be counted.
    private int secondA;
    private int secondB;
    private final int[] countedNumbers = new int[CELLS];

    public RootWeights(int type) {
        int clamped = type < 0 ? 0 : type;
        turnTo(clamped > TOP_TYPE ? TOP_TYPE : clamped);
    }

    public int type(int type) {
        if (type < 0 || type > TOP_TYPE) {
            return -1;
        }
        int before = typeNow;
        turnTo(type);
        return before;
    }

    public int first(int a, int b) {
        if (!hasTable(a, b)) {
            return -1;
        }
        firstA = a;
        firstB = b;
        return build(firstNumbers, a, b);
    }

    public int second(int a, int b) {
        if (!hasTable(a, b)) {
            return -1;
        }
        secondA = a;
        secondB = b;
        return build(countedNumbers, a, b);
    }

    public int number(int c, int d) {
        if (!inReach(c, d)) {
            return -1;
        }
        return numberAt(firstNumbers, c, d);
    }

    public int size() {
        int sum = 0;
        for (int i = 0; i < CELLS; i++) {
            sum += firstNumbers[i];
        }
        return sum;
    }

    public int most() {
        int greatest = 0;
        for (int i = 0; i < CELLS; i++) {
            if (firstNumbers[i] > greatest) {
                greatest = firstNumbers[i];
            }
        }
        return greatest;
    }

    public int orbit(int c, int d) {
        if (!inReach(c, d)) {
            return -1;
        }
        // Each weight of the orbit is reached by as many motions as leave (c, d) where it is.
        int still = 1;
        for (int k = 1; k < motions; k++) {
            if (movedFirst(k, c, d) == c && movedSecond(k, c, d) == d) {
                still++;
            }
        }
        return motions / still;
    }

    public int high(int c, int d) {
        if (!inReach(c, d)) {
            return -1;
        }
        int answer = 0;
        for (int k = 0; k < motions; k++) {
            int e = movedFirst(k, c, d);
            int f = movedSecond(k, c, d);
            if (isHigh(e, f)) {
                answer = 1000 * e + f;
            }
        }
        return answer;
    }

    public int product(int c, int d) {
        if (!inReach(c, d)) {
            return -1;
        }
        return isHigh(c, d) ? timesInProduct(secondA, secondB, c, d) : 0;
    }

    public int kinds() {
        int count = 0;
        for (int c = 0; c <= REACH; c++) {
            for (int d = 0; d <= REACH; d++) {
                if (timesInProduct(secondA, secondB, c, d) != 0) {
                    count++;
                }
            }
        }
        return count;
    }

    public int total() {
        int sum = 0;
        for (int c = 0; c <= REACH; c++) {
            for (int d = 0; d <= REACH; d++) {
                sum += timesInProduct(secondA, secondB, c, d);
            }
        }
        return sum;
    }

    public int even(int c, int d) {
        if (!inReach(c, d)) {
            return -1;
        }
        return isHigh(c, d) ? (timesInProduct(firstA, firstB, c, d) + timesInDouble(c, d)) / 2 : 0;
    }

    public int odd(int c, int d) {
        if (!inReach(c, d)) {
            return -1;
        }
        return isHigh(c, d) ? (timesInProduct(firstA, firstB, c, d) - timesInDouble(c, d)) / 2 : 0;
    }

    public int along(int i, int k) {
        if (i != 0 && i != 1) {
            return -1;
        }
        if (k < 0 || k > REACH) {
            return -2;
        }
        return lineSum(i, k) - lineSum(i, k + 2);
    }

    private static boolean hasTable(int a, int b) {
        return a >= 0 && a <= TOP_PART && b >= 0 && b <= TOP_PART;
    }

    private static boolean inReach(int c, int d) {
        return c >= -REACH && c <= REACH && d >= -REACH && d <= REACH;
    }

    private static boolean isHigh(int a, int b) {
        return a >= 0 && b >= 0;
    }

    private static boolean onGrid(int a, int b) {
        return a >= -EDGE && a <= EDGE && b >= -EDGE && b <= EDGE;
    }

    private static int cell(int a, int b) {
        return (a + EDGE) * SIDE + b + EDGE;
    }

    private static int numberAt(int[] numbers, int a, int b) {
        return onGrid(a, b) ? numbers[cell(a, b)] : 0;
    }

    private void turnTo(int type) {
        typeNow = type;
        p = -type;
        q = type == 0 ? 0 : -1;
        motions = type == TOP_TYPE ? MOST_MOTIONS : 4 + 2 * type;
        layMotions();
        build(firstNumbers, firstA, firstB);
    }

    /**
     * Making the two turns by turns, starting with the first one, comes through every motion just once
     * before it is back at the start. So motion k is one of k turns, and is even if k is.
     */
    private void layMotions() {
        int aa = 1;
        int ab = 0;
        int ba = 0;
        int bb = 1;
        for (int k = 0; k < motions; k++) {
            firstByA[k] = aa;
            firstByB[k] = ab;
            secondByA[k] = ba;
            secondByB[k] = bb;
            if (k % 2 == 0) {
                ba -= aa * p;
                bb -= ab * p;
                aa = -aa;
                ab = -ab;
            } else {
                aa -= ba * q;
                ab -= bb * q;
                ba = -ba;
                bb = -bb;
            }
        }
    }

    private static int sign(int k) {
        return k % 2 == 0 ? 1 : -1;
    }

    private int movedFirst(int k, int a, int b) {
        return firstByA[k] * a + firstByB[k] * b;
    }

    private int movedSecond(int k, int a, int b) {
        return secondByA[k] * a + secondByB[k] * b;
    }

    /**
     * Fills in the table of (a, b) and answers how many of its numbers are not 0. Every weight with such
     * a number is (a, b) less some times (2, p) and some times (q, 2); going down by both, each number
     * comes after all those that it hangs on.
     */
    private int build(int[] numbers, int a, int b) {
        for (int i = 0; i < CELLS; i++) {
            numbers[i] = 0;
        }
        int count = 0;
        for (int i = 0; i <= FIRST_STEPS; i++) {
            for (int j = 0; j <= SECOND_STEPS; j++) {
                int x = a - 2 * i - q * j;
                int y = b - p * i - 2 * j;
                if (onGrid(x, y)) {
                    int found = numberFromAbove(numbers, x, y, a, b);
                    numbers[cell(x, y)] = found;
                    count += found != 0 ? 1 : 0;
                }
            }
        }
        return count;
    }

    /**
     * The number of (x, y) in the table of (a, b), from the condition on that table at (x + 1, y + 1):
     * the motion of no turns has the number itself there, all others have numbers of higher weights.
     */
    private int numberFromAbove(int[] numbers, int x, int y, int a, int b) {
        int sum = 0;
        for (int k = 0; k < motions; k++) {
            if (movedFirst(k, a + 1, b + 1) == x + 1 && movedSecond(k, a + 1, b + 1) == y + 1) {
                sum += sign(k);
            }
        }
        for (int k = 1; k < motions; k++) {
            int u = x + 1 - movedFirst(k, 1, 1);
            int v = y + 1 - movedSecond(k, 1, 1);
            sum -= sign(k) * numberAt(numbers, u, v);
        }
        return sum;
    }

    /**
     * How often the table of the high weight (c, d) is in the product of first and the table of (x, y).
     * In the condition on tables, summed over the tables in the product, only that of (c, d) gives
     * anything at (c + 1, d + 1); and the condition on the table of (x, y) turns the sum into this one.
     */
    private int timesInProduct(int x, int y, int c, int d) {
        int sum = 0;
        for (int k = 0; k < motions; k++) {
            int u = c + 1 - movedFirst(k, x + 1, y + 1);
            int v = d + 1 - movedSecond(k, x + 1, y + 1);
            sum += sign(k) * numberAt(firstNumbers, u, v);
        }
        return sum;
    }

    /** The same for the table m2 of first, which may hold a table less than 0 times. */
    private int timesInDouble(int c, int d) {
        int sum = 0;
        for (int k = 0; k < motions; k++) {
            int u = c + 1 - movedFirst(k, 1, 1);
            int v = d + 1 - movedSecond(k, 1, 1);
            if (u % 2 == 0 && v % 2 == 0) {
                sum += sign(k) * numberAt(firstNumbers, u / 2, v / 2);
            }
        }
        return sum;
    }

    private int lineSum(int i, int k) {
        int sum = 0;
        for (int other = -EDGE; other <= EDGE; other++) {
            sum += i == 0 ? numberAt(firstNumbers, k, other) : numberAt(firstNumbers, other, k);
        }
        return sum;
    }
}
