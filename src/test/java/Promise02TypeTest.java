/** Promise 2: another type, with first and second of the same high weights; else -1 and nothing changes. */
public final class Promise02TypeTest {
    private static final int[][] NO_TYPE = {
        {-1, 0}, {4, 0}, {5, 0}, {-2, 0}, {256, 0}, {-256, 0}, {Integer.MIN_VALUE, 0}, {Integer.MAX_VALUE, 0},
    };
    private static final int[][] TOPS = {{0, 0}, {1, 0}, {0, 1}, {2, 1}, {1, 3}, {3, 3}};

    public static void main(String[] args) {
        Check check = new Check("promise 2, type");
        for (int from = 0; from <= 3; from++) {
            for (int to = 0; to <= 3; to++) {
                for (int[] first : TOPS) {
                    for (int[] second : TOPS) {
                        change(check, from, to, first, second);
                    }
                }
            }
            int type = from;
            check.refused("type", () -> Check.made(type, new int[] {2, 1}, new int[] {1, 1}),
                    (x, wrong, unused) -> x.type(wrong), NO_TYPE, -1);
        }
        sizes(check);
        check.end();
    }

    private static void change(Check check, int from, int to, int[] first, int[] second) {
        RootWeights x = Check.made(from, first, second);
        check.due("type(" + to + ") from " + from, x.type(to), from);
        String want = Check.state(Check.made(to, first, second));
        check.same("type " + to + " after type " + from, Check.state(x), want);
        check.due("type(" + from + ") back from " + to, x.type(from), to);
        want = Check.state(Check.made(from, first, second));
        check.same("type " + from + " again", Check.state(x), want);
    }

    private static void sizes(Check check) {
        RootWeights x = Check.made(0, 1, 1);
        check.due("size() at type 0", x.size(), 4);
        check.due("type(1)", x.type(1), 0);
        check.due("size() at type 1", x.size(), 8);
        check.due("type(2)", x.type(2), 1);
        check.due("size() at type 2", x.size(), 16);
        check.due("type(3)", x.type(3), 2);
        check.due("size() at type 3", x.size(), 64);
        check.due("type(3) again", x.type(3), 3);
        check.due("size() at type 3 again", x.size(), 64);
    }
}
