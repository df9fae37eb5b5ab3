/** Promise 11: how many different high weights have a table that is in the product of first and second. */
public final class Promise11KindsTest {
    public static void main(String[] args) {
        Check check = new Check("promise 11, kinds");
        for (int type = 0; type <= 3; type++) {
            for (int pair = 0; pair < 256; pair++) {
                RootWeights x = new RootWeights(type);
                Model model = new Model(type);
                x.first(pair / 64, pair / 16 % 4);
                model.first(pair / 64, pair / 16 % 4);
                x.second(pair / 4 % 4, pair % 4);
                model.second(pair / 4 % 4, pair % 4);
                check.due("type " + type + ", pair " + pair + ": kinds()", x.kinds(), model.kinds());
            }
        }
        check.due("type 1, (1, 1) twice", Check.made(1, new int[] {1, 1}, new int[] {1, 1}).kinds(), 5);
        check.due("type 2, (2, 3) and (3, 3)", Check.made(2, new int[] {2, 3}, new int[] {3, 3}).kinds(), 35);
        check.due("type 0, (3, 2) and (3, 1)", Check.made(0, new int[] {3, 2}, new int[] {3, 1}).kinds(), 8);
        check.end();
    }
}
