/** The sentences of "Terms" on what changes nothing, and on how long an object is used. */
public final class BoundaryNothingChangesTest {
    private static final int USED_FOR = 512;
    private static final int[][] ARGUMENTS = {
        {0, 0}, {1, 0}, {0, 1}, {3, 3}, {-1, 2}, {2, -1}, {40, 40}, {-40, -40}, {41, 0}, {0, -41}, {1, 41}, {2, 40},
        {Integer.MIN_VALUE, Integer.MAX_VALUE}, {Integer.MAX_VALUE, Integer.MIN_VALUE},
    };

    public static void main(String[] args) {
        Sentences terms = new Sentences("terms");
        for (FaceCall each : FaceCall.BELOW) {
            terms.test("The calls below change nothing (" + each.name() + ")", check -> changesNothing(check, each));
        }
        terms.test("A refused call changes nothing (any between all others)", BoundaryNothingChangesTest::between);
        for (FaceCall each : FaceCall.ALL) {
            terms.test("An object is used for at most 512 calls (" + each.name() + ")", check -> last(check, each));
        }
        terms.end();
    }

    private static void changesNothing(Check check, FaceCall each) {
        Check.everyState(fresh -> {
            String without = Check.later(fresh.get());
            for (int[] row : ARGUMENTS) {
                RootWeights x = fresh.get();
                int answer = each.of(x, row[0], row[1]);
                String name = each.name() + "(" + row[0] + ", " + row[1] + ")";
                check.due(name + " once more", each.of(x, row[0], row[1]), answer);
                check.same("calls after " + name, Check.later(x), without);
            }
        });
    }

    /** The same run on two objects, one of which has a refused call of each sort ahead of each call of the run. */
    private static void between(Check check) {
        for (int type = 0; type <= 3; type++) {
            RootWeights plain = new RootWeights(type);
            RootWeights disturbed = new RootWeights(type);
            for (int i = 0; i < 36; i++) {
                refusedOnes(check, disturbed, i);
                FaceCall each = FaceCall.CHANGES[i % 3];
                int a = i / 3 % 4;
                int b = (i / 2 + 1) % 4;
                check.due(each.name(), each.of(disturbed, a, b), each.of(plain, a, b));
                check.due("size()", disturbed.size(), plain.size());
                check.due("total()", disturbed.total(), plain.total());
            }
            check.due("type(0)", disturbed.type(0), plain.type(0));
        }
    }

    private static void refusedOnes(Check check, RootWeights x, int i) {
        int far = i % 2 == 0 ? 41 + i : -41 - i;
        int odd = i % 2 == 0 ? 4 + i : -1 - i;
        check.due("type(" + odd + ")", x.type(odd), -1);
        check.due("first(" + odd + ", 2)", x.first(odd, 2), -1);
        check.due("first(1, " + odd + ")", x.first(1, odd), -1);
        check.due("second(" + odd + ", 0)", x.second(odd, 0), -1);
        check.due("second(3, " + odd + ")", x.second(3, odd), -1);
        check.due("number(" + far + ", 0)", x.number(far, 0), -1);
        check.due("product(0, " + far + ")", x.product(0, far), -1);
        check.due("even(" + far + ", 0)", x.even(far, 0), -1);
        check.due("odd(0, " + far + ")", x.odd(0, far), -1);
        check.due("along(" + (2 + i) + ", 0)", x.along(2 + i, 0), -1);
        check.due("along(0, " + (41 + i) + ")", x.along(0, 41 + i), -2);
    }

    /** The object's 512th call answers as it does on one that has just been made. */
    private static void last(Check check, FaceCall each) {
        Check.everyState(fresh -> {
            RootWeights x = fresh.get();
            int type = x.type(0);
            x.type(type);
            int made = 4;
            for (; made < USED_FOR - 1; made++) {
                FaceCall call = FaceCall.BELOW[made % FaceCall.BELOW.length];
                int[] row = ARGUMENTS[made / 3 % ARGUMENTS.length];
                call.of(x, row[0], row[1]);
            }
            check.due("calls made", made, USED_FOR - 1);
            check.due(each.name() + " as the 512th call", each.of(x, 1, 2), each.of(fresh.get(), 1, 2));
        });
        afterChanges(check, each);
    }

    /** The same after 511 calls that changed type, first and second, and ended with a state that is told. */
    private static void afterChanges(Check check, FaceCall each) {
        RootWeights x = new RootWeights(1);
        for (int made = 0; made < USED_FOR - 4; made++) {
            FaceCall.CHANGES[made % 3].of(x, made / 3 % 5, made / 7 % 5);
        }
        x.type(2);
        x.first(1, 3);
        x.second(2, 2);
        RootWeights told = Check.made(2, new int[] {1, 3}, new int[] {2, 2});
        check.due(each.name() + " as the 512th call", each.of(x, 1, 2), each.of(told, 1, 2));
    }
}
