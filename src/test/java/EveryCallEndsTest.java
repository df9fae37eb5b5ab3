/**
 * Rules 7 and 11 of LANGUAGE.md, by calling: each call ends, whatever it is given, and answers alike each time. The
 * states are sixteen, of every type and from the least tables to the greatest.
 */
public final class EveryCallEndsTest {
    // The edges that the document names, and numbers whose sums, products and opposites wrap around.
    private static final int[] NUMBERS = {
        Integer.MIN_VALUE, Integer.MIN_VALUE + 1, Integer.MIN_VALUE + 41, Integer.MIN_VALUE / 2, -65536, -1000,
        -42, -41, -40, -21, -20, -4, -3, -2, -1, 0, 1, 2, 3, 4, 20, 21, 39, 40, 41, 42, 1000, 65535, 65536,
        Integer.MAX_VALUE / 2, Integer.MAX_VALUE - 41, Integer.MAX_VALUE - 1, Integer.MAX_VALUE,
    };
    private static final int LONG_RUN = 20000;

    public static void main(String[] args) {
        Sentences rules = new Sentences("LANGUAGE.md");
        rules.test("7. No call may ever throw or fail to end (a new object)", EveryCallEndsTest::made);
        for (FaceCall each : FaceCall.ALL) {
            rules.test("7. for any arguments in any state (" + each.name() + ")", check -> inEveryState(check, each));
        }
        rules.test("7. No call may ever throw or fail to end (after the 512th, too)", EveryCallEndsTest::longRun);
        rules.test("11. the same calls always give the same answers", EveryCallEndsTest::alike);
        rules.end();
    }

    private static void made(Check check) {
        for (int number : NUMBERS) {
            ends(check, "new RootWeights(" + number + ")", () -> new RootWeights(number));
        }
    }

    private static void inEveryState(Check check, FaceCall each) {
        Check.everyState(fresh -> {
            for (int c : NUMBERS) {
                RootWeights x = fresh.get();
                for (int d : NUMBERS) {
                    ends(check, each.name() + "(" + c + ", " + d + ")", () -> each.of(x, c, d));
                }
            }
        });
    }

    private static void longRun(Check check) {
        RootWeights x = new RootWeights(3);
        for (int i = 0; i < LONG_RUN; i++) {
            FaceCall each = FaceCall.ALL[i % FaceCall.ALL.length];
            int c = NUMBERS[i / 3 % NUMBERS.length];
            int d = NUMBERS[i / 7 % NUMBERS.length];
            ends(check, "call " + i + ", " + each.name() + "(" + c + ", " + d + ")", () -> each.of(x, c, d));
        }
    }

    /** Two runs, the second one with other objects made and used between its calls. */
    private static void alike(Check check) {
        for (int type = 0; type <= 3; type++) {
            RootWeights alone = new RootWeights(type);
            RootWeights amid = new RootWeights(type);
            for (int i = 0; i < 500; i++) {
                FaceCall each = FaceCall.ALL[i % FaceCall.ALL.length];
                int c = i / 5 % 4;
                int d = i / 11 % 4;
                RootWeights other = Check.made((type + i) % 4, 3 - c, 3 - d);
                check.due("call " + i + ", " + each.name(), each.of(amid, c, d), each.of(alone, c, d));
                other.type(c);
            }
        }
    }

    private static void ends(Check check, String call, Runnable made) {
        try {
            made.run();
            check.holds(call, true);
        } catch (Throwable thrown) {
            check.holds(call + " throws nothing, but " + thrown, false);
        }
    }
}
