/** What the document says of tables at their top, at their rim and beyond, by way of promises 3, 5, 6 and 7. */
public final class BoundaryTablesTest {
    private static final int[] GREATEST_SIZE = {16, 64, 256, 4096};
    private static final int[] GREATEST_MOST = {1, 4, 8, 64};

    public static void main(String[] args) {
        Sentences terms = new Sentences("terms, promises 5 to 7");
        terms.test("not 0 for only finitely many", BoundaryTablesTest::finitelyMany);
        terms.test("Its numbers are 0 or more", BoundaryTablesTest::noneBelowZero);
        terms.test("m((a, b)) is 1", BoundaryTablesTest::top);
        terms.test("the same number to weights that motions take to each other", BoundaryTablesTest::sameNumber);
        terms.test("The number of (c, d) in first (at the rim)", BoundaryTablesTest::rim);
        terms.test("The sum of all numbers in first (least and greatest)", BoundaryTablesTest::sizes);
        terms.test("The greatest number in first (least and greatest)", BoundaryTablesTest::mosts);
        terms.end();
    }

    private interface TableTest {
        void of(int type, int a, int b, int[][] numbers);
    }

    private static void everyTable(TableTest test) {
        for (int type = 0; type <= 3; type++) {
            for (int top = 0; top < 16; top++) {
                int[][] numbers = Check.answers(Check.maker(type, top / 4, top % 4), RootWeights::number);
                test.of(type, top / 4, top % 4, numbers);
            }
        }
    }

    /** Far out there is nothing, and what is within makes up all that size and first count. */
    private static void finitelyMany(Check check) {
        everyTable((type, a, b, numbers) -> {
            int sum = 0;
            int count = 0;
            for (int c = -40; c <= 40; c++) {
                for (int d = -40; d <= 40; d++) {
                    int number = numbers[c + 40][d + 40];
                    sum += number;
                    count += number != 0 ? 1 : 0;
                    boolean far = c < -15 || c > 15 || d < -15 || d > 15;
                    check.holds(Check.name(type, a, b) + "nothing at (" + c + ", " + d + ")", !far || number == 0);
                }
            }
            check.due(Check.name(type, a, b) + "size()", Check.made(type, a, b).size(), sum);
            check.due(Check.name(type, a, b) + "first", new RootWeights(type).first(a, b), count);
            check.due(Check.name(type, a, b) + "second", new RootWeights(type).second(a, b), count);
        });
    }

    private static void noneBelowZero(Check check) {
        everyTable((type, a, b, numbers) -> {
            for (int i = 0; i < 81 * 81; i++) {
                check.holds(Check.name(type, a, b) + "number " + i, numbers[i / 81][i % 81] >= 0);
            }
        });
    }

    private static void top(Check check) {
        everyTable((type, a, b, numbers) -> {
            String name = Check.name(type, a, b);
            check.due(name + "number of (a, b)", numbers[a + 40][b + 40], 1);
            check.due(name + "number of (a + 1, b)", numbers[a + 41][b + 40], 0);
            check.due(name + "number of (a, b + 1)", numbers[a + 40][b + 41], 0);
            check.due(name + "number of (a + 1, b + 1)", numbers[a + 41][b + 41], 0);
            check.due(name + "number of (a + 2, b)", numbers[a + 42][b + 40], 0);
            check.due(name + "number of (a, b + 2)", numbers[a + 40][b + 42], 0);
        });
    }

    private static void sameNumber(Check check) {
        everyTable((type, a, b, numbers) -> {
            for (int c = -16; c <= 16; c++) {
                for (int d = -16; d <= 16; d++) {
                    for (int which = 0; which < 2; which++) {
                        Model.Weight v = Model.turn(type, which, new Model.Weight(c, d));
                        if (Math.abs(v.a()) <= 40 && Math.abs(v.b()) <= 40) {
                            check.due(Check.name(type, a, b) + "number of " + v + " and of (" + c + ", " + d + ")",
                                    numbers[v.a() + 40][v.b() + 40], numbers[c + 40][d + 40]);
                        }
                    }
                }
            }
        });
    }

    /** Motions take (3, 3) to the outermost weights of its table. */
    private static void rim(Check check) {
        RootWeights x = Check.made(3, 3, 3);
        check.due("type 3, number(9, -15)", x.number(9, -15), 1);
        check.due("type 3, number(-9, 15)", x.number(-9, 15), 1);
        check.due("type 3, number(10, -15)", x.number(10, -15), 0);
        check.due("type 3, number(9, -16)", x.number(9, -16), 0);
        check.due("type 3, number(-6, 15)", x.number(-6, 15), 1);
        check.due("type 3, number(-3, -3)", x.number(-3, -3), 1);
        check.due("type 3, number(-4, -3)", x.number(-4, -3), 0);
        x = Check.made(0, 3, 2);
        check.due("type 0, number(-3, -2)", x.number(-3, -2), 1);
        check.due("type 0, number(-4, -2)", x.number(-4, -2), 0);
        check.due("type 0, number(-5, -2)", x.number(-5, -2), 0);
        check.due("type 0, number(-3, -4)", x.number(-3, -4), 0);
        check.due("type 0, number(1, 0)", x.number(1, 0), 1);
        check.due("type 0, number(0, 0)", x.number(0, 0), 0);
        x = Check.made(2, 0, 3);
        check.due("type 2, number(-3, 3)", x.number(-3, 3), 1);
        check.due("type 2, number(-4, 3)", x.number(-4, 3), 0);
        check.due("type 2, number(3, -3)", x.number(3, -3), 1);
    }

    private static void sizes(Check check) {
        for (int type = 0; type <= 3; type++) {
            RootWeights x = new RootWeights(type);
            check.due("type " + type + ", size() of a new object", x.size(), 1);
            x.first(3, 3);
            check.due("type " + type + ", size() with (3, 3)", x.size(), GREATEST_SIZE[type]);
            x.first(4, 3);
            check.due("type " + type + ", size() after a refused first", x.size(), GREATEST_SIZE[type]);
            x.first(0, 0);
            check.due("type " + type + ", size() with (0, 0)", x.size(), 1);
        }
    }

    private static void mosts(Check check) {
        for (int type = 0; type <= 3; type++) {
            RootWeights x = new RootWeights(type);
            check.due("type " + type + ", most() of a new object", x.most(), 1);
            x.first(3, 3);
            check.due("type " + type + ", most() with (3, 3)", x.most(), GREATEST_MOST[type]);
            x.first(3, 4);
            check.due("type " + type + ", most() after a refused first", x.most(), GREATEST_MOST[type]);
            x.first(0, 0);
            check.due("type " + type + ", most() with (0, 0)", x.most(), 1);
        }
    }
}
