/** Promise 12: how often tables are in the product of first and second, all together. */
public final class Promise12TotalTest {
    public static void main(String[] args) {
        Check check = new Check("promise 12, total");
        for (int type = 0; type <= 3; type++) {
            for (int pair = 0; pair < 256; pair++) {
                RootWeights x = new RootWeights(type);
                Model model = new Model(type);
                x.first(pair / 64, pair / 16 % 4);
                model.first(pair / 64, pair / 16 % 4);
                x.second(pair / 4 % 4, pair % 4);
                model.second(pair / 4 % 4, pair % 4);
                check.due("type " + type + ", pair " + pair + ": total()", x.total(), model.total());
            }
        }
        check.due("type 1, (1, 1) twice", Check.made(1, new int[] {1, 1}, new int[] {1, 1}).total(), 6);
        check.due("type 2, (2, 3) and (3, 3)", Check.made(2, new int[] {2, 3}, new int[] {3, 3}).total(), 96);
        check.due("type 3, (2, 3) and (3, 3)", Check.made(3, new int[] {2, 3}, new int[] {3, 3}).total(), 716);
        check.end();
    }
}
