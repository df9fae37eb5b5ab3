import java.util.HashMap;
import java.util.Map;

/** What the document says of products and halves where they are least, fullest and empty: promises 10 to 14. */
public final class BoundaryProductsTest {
    // Of the table of (3, 3) with itself, found by long division, apart from the class and the model.
    private static final int[] FULLEST_KINDS = {16, 25, 43, 88};
    private static final int[] FULLEST_TOTAL = {16, 44, 136, 1216};

    public static void main(String[] args) {
        Sentences terms = new Sentences("terms, promises 10 to 14");
        terms.test("the numbers are 0 or more, nearly all 0", BoundaryProductsTest::nearlyAllZero);
        terms.test("the sum .. of its number times its table is the product", BoundaryProductsTest::makesTheProduct);
        terms.test("How many different high weights have a table that is in the product", BoundaryProductsTest::kinds);
        terms.test("How often tables are in the product .. all together", BoundaryProductsTest::totals);
        terms.test("all other weights 0 (of m2)", BoundaryProductsTest::halvesApart);
        terms.test("half of the sum of the product and m2", BoundaryProductsTest::halvesTogether);
        terms.test("these numbers are 0 or more, too", BoundaryProductsTest::halvesNotBelowZero);
        terms.test("the product of first with itself", BoundaryProductsTest::firstAlone);
        terms.end();
    }

    private interface PairTest {
        void of(int type, int[] first, int[] second);
    }

    private static void everyPair(PairTest test) {
        for (int type = 0; type <= 3; type++) {
            for (int pair = 0; pair < 256; pair++) {
                test.of(type, new int[] {pair / 64, pair / 16 % 4}, new int[] {pair / 4 % 4, pair % 4});
            }
        }
    }

    private static String name(int type, int[] first, int[] second) {
        return Check.name(type, first[0], first[1]) + "second of (" + second[0] + ", " + second[1] + "): ";
    }

    /** The sum of both tops is in the product once; next to it and above it nothing is. */
    private static void nearlyAllZero(Check check) {
        everyPair((type, first, second) -> {
            RootWeights x = Check.made(type, first, second);
            String row = name(type, first, second) + "product ";
            int c = first[0] + second[0];
            int d = first[1] + second[1];
            check.due(row + "at the top", x.product(c, d), 1);
            check.due(row + "one above in c", x.product(c + 1, d), 0);
            check.due(row + "one above in d", x.product(c, d + 1), 0);
            check.due(row + "two above in c", x.product(c + 2, d), 0);
            check.due(row + "two above in d", x.product(c, d + 2), 0);
            check.due(row + "at (40, 40)", x.product(40, 40), 0);
            check.due(row + "at (0, 40)", x.product(0, 40), 0);
            check.due(row + "at (40, 0)", x.product(40, 0), 0);
            for (int i = 0; i < 16 * 16; i++) {
                check.holds(row + "not below 0", x.product(i / 16, i % 16) >= 0);
            }
        });
    }

    private static Map<Model.Weight, Integer> tablesAdded(int type, int[][] times) {
        Map<Model.Weight, Integer> all = new HashMap<>();
        for (int c = 0; c <= 40; c++) {
            for (int d = 0; d <= 40; d++) {
                int often = times[c + 40][d + 40];
                if (often != 0) {
                    Model.table(type, c, d).forEach((v, n) -> all.merge(v, often * n, Integer::sum));
                }
            }
        }
        all.values().removeIf(n -> n == 0);
        return all;
    }

    private static void makesTheProduct(Check check) {
        int[][] tops = {{0, 0}, {3, 0}, {0, 3}, {1, 2}, {3, 3}};
        for (int type = 0; type <= 3; type++) {
            int made = type;
            for (int[] first : tops) {
                for (int[] second : tops) {
                    int[][] times = Check.answers(() -> Check.made(made, first, second), RootWeights::product);
                    Map<Model.Weight, Integer> want = Model.multiplied(
                            Model.table(type, first[0], first[1]), Model.table(type, second[0], second[1]));
                    check.holds(name(type, first, second) + "the tables in it make the product",
                            tablesAdded(type, times).equals(want));
                }
            }
        }
    }

    private static void kinds(Check check) {
        everyPair((type, first, second) -> {
            int[] none = {0, 0};
            check.due(name(type, first, none) + "kinds()", Check.made(type, first, none).kinds(), 1);
            check.due(name(type, none, second) + "kinds()", Check.made(type, none, second).kinds(), 1);
            check.due(name(type, first, second) + "kinds()", Check.made(type, first, second).kinds(),
                    counted(Check.made(type, first, second), true));
        });
        for (int type = 0; type <= 3; type++) {
            RootWeights x = Check.made(type, new int[] {3, 3}, new int[] {3, 3});
            check.due("type " + type + ", kinds() at its fullest", x.kinds(), FULLEST_KINDS[type]);
        }
    }

    private static void totals(Check check) {
        everyPair((type, first, second) -> {
            int[] none = {0, 0};
            check.due(name(type, first, none) + "total()", Check.made(type, first, none).total(), 1);
            check.due(name(type, none, second) + "total()", Check.made(type, none, second).total(), 1);
            check.due(name(type, first, second) + "total()", Check.made(type, first, second).total(),
                    counted(Check.made(type, first, second), false));
        });
        for (int type = 0; type <= 3; type++) {
            RootWeights x = Check.made(type, new int[] {3, 3}, new int[] {3, 3});
            check.due("type " + type + ", total() at its fullest", x.total(), FULLEST_TOTAL[type]);
        }
    }

    /** No high weight in a product has a first part above 9 or a second part above 15: none is above (6, 6). */
    private static int counted(RootWeights x, boolean once) {
        int sum = 0;
        for (int c = 0; c <= 16; c++) {
            for (int d = 0; d <= 24; d++) {
                int often = x.product(c, d);
                sum += once ? (often != 0 ? 1 : 0) : often;
            }
        }
        return sum;
    }

    private interface TopTest {
        void of(int type, int a, int b, int[][] even, int[][] odd);
    }

    private static void everyTop(TopTest test) {
        for (int type = 0; type <= 3; type++) {
            for (int top = 0; top < 16; top++) {
                int[][] even = Check.answers(Check.maker(type, top / 4, top % 4), RootWeights::even);
                int[][] odd = Check.answers(Check.maker(type, top / 4, top % 4), RootWeights::odd);
                test.of(type, top / 4, top % 4, even, odd);
            }
        }
    }

    /** The even half less the odd half is m2: first's numbers at twice their weights, and nothing between. */
    private static void halvesApart(Check check) {
        everyTop((type, a, b, even, odd) -> {
            int[][] apart = new int[81][81];
            for (int i = 0; i < 81 * 81; i++) {
                apart[i / 81][i % 81] = even[i / 81][i % 81] - odd[i / 81][i % 81];
            }
            Map<Model.Weight, Integer> doubled = new HashMap<>();
            int[][] numbers = Check.answers(Check.maker(type, a, b), RootWeights::number);
            for (int i = 0; i < 81 * 81; i++) {
                if (numbers[i / 81][i % 81] != 0) {
                    doubled.put(new Model.Weight(2 * (i / 81 - 40), 2 * (i % 81 - 40)), numbers[i / 81][i % 81]);
                }
            }
            check.holds(Check.name(type, a, b) + "m2", tablesAdded(type, apart).equals(doubled));
        });
    }

    private static void halvesTogether(Check check) {
        everyTop((type, a, b, even, odd) -> {
            int[] top = {a, b};
            int[][] product = Check.answers(() -> Check.made(type, top, top), RootWeights::product);
            for (int c = -40; c <= 40; c++) {
                for (int d = -40; d <= 40; d++) {
                    check.due(Check.name(type, a, b) + "even and odd(" + c + ", " + d + ")",
                            even[c + 40][d + 40] + odd[c + 40][d + 40], product[c + 40][d + 40]);
                }
            }
            check.due(Check.name(type, a, b) + "even at the top", even[2 * a + 40][2 * b + 40], 1);
            check.due(Check.name(type, a, b) + "odd at the top", odd[2 * a + 40][2 * b + 40], 0);
        });
    }

    private static void halvesNotBelowZero(Check check) {
        everyTop((type, a, b, even, odd) -> {
            for (int i = 0; i < 81 * 81; i++) {
                check.holds(Check.name(type, a, b) + "even " + i, even[i / 81][i % 81] >= 0);
                check.holds(Check.name(type, a, b) + "odd " + i, odd[i / 81][i % 81] >= 0);
            }
        });
    }

    /** The odd half is empty for (0, 0) alone; what second is makes no difference to either half. */
    private static void firstAlone(Check check) {
        everyPair((type, first, second) -> {
            RootWeights alone = Check.made(type, first, new int[] {0, 0});
            RootWeights x = Check.made(type, first, second);
            boolean something = false;
            for (int c = 0; c <= 12; c++) {
                for (int d = 0; d <= 15; d++) {
                    int even = x.even(c, d);
                    int odd = x.odd(c, d);
                    something |= odd != 0;
                    check.due(name(type, first, second) + "even", even, alone.even(c, d));
                    check.due(name(type, first, second) + "odd", odd, alone.odd(c, d));
                }
            }
            check.holds(name(type, first, second) + "an odd half", something == (first[0] + first[1] != 0));
        });
    }
}
