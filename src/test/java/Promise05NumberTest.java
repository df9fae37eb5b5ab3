import java.util.List;
import java.util.function.Supplier;

/** Promise 5: the number of (c, d) in first, against the document's own condition and against the model. */
public final class Promise05NumberTest {
    // Motions take (1, 1) to parts of at most 5, so that every number asked for is within -40 to 40.
    private static final int ASKED = 35;

    public static void main(String[] args) {
        Check check = new Check("promise 5, number");
        for (int type = 0; type <= 3; type++) {
            for (int a = 0; a <= 3; a++) {
                for (int b = 0; b <= 3; b++) {
                    Supplier<RootWeights> fresh = Check.maker(type, a, b);
                    condition(check, Check.answers(fresh, RootWeights::number), type, a, b);
                    Model model = new Model(type);
                    model.first(a, b);
                    check.everyWeight(Check.name(type, a, b) + "number", fresh, RootWeights::number, model::number);
                }
            }
        }
        known(check);
        check.end();
    }

    private static void condition(Check check, int[][] numbers, int type, int a, int b) {
        List<Model.Motion> motions = Model.motions(type);
        Model.Weight top = new Model.Weight(a + 1, b + 1);
        Model.Weight one = new Model.Weight(1, 1);
        for (int c = -ASKED; c <= ASKED; c++) {
            for (int d = -ASKED; d <= ASKED; d++) {
                int sum = 0;
                int want = 0;
                for (Model.Motion w : motions) {
                    Model.Weight moved = w.of(one);
                    sum += w.sign() * numbers[40 + c - moved.a()][40 + d - moved.b()];
                    want += w.of(top).equals(new Model.Weight(c, d)) ? w.sign() : 0;
                }
                check.due(Check.name(type, a, b) + "the sum for (" + c + ", " + d + ")", sum, want);
            }
        }
    }

    private static void known(Check check) {
        RootWeights x = Check.made(3, 1, 0);
        check.due("type 3, (1, 0), number(0, 0)", x.number(0, 0), 2);
        check.due("type 3, (1, 0), number(-1, 3)", x.number(-1, 3), 1);
        check.due("type 3, (1, 0), number(40, 40)", x.number(40, 40), 0);
        check.due("type 3, (1, 0), number(-40, -40)", x.number(-40, -40), 0);
    }
}
