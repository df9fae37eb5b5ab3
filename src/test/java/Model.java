import java.util.ArrayList;
import java.util.HashMap;
import java.util.HashSet;
import java.util.List;
import java.util.Map;
import java.util.Set;

/**
 * The document read slowly, by other ways than the class goes: the motions are gathered by making turns
 * until nothing new comes, tables grow by laying out strings, products are multiplied out, and what they
 * are made of is taken off them from the top.
 */
final class Model {
    record Weight(int a, int b) { }

    record Motion(int aa, int ab, int ba, int bb) {
        Weight of(Weight v) {
            return new Weight(aa * v.a + ab * v.b, ba * v.a + bb * v.b);
        }

        int sign() {
            return aa * bb - ab * ba;
        }
    }

    private static final int[] P = {0, -1, -2, -3};
    private static final int[] Q = {0, -1, -1, -1};
    private static final Map<List<Integer>, Map<Weight, Integer>> TABLES = new HashMap<>();
    private static final Map<List<Integer>, Map<Weight, Integer>> MADE_OF = new HashMap<>();

    private int type;
    private Weight first = new Weight(0, 0);
    private Weight second = new Weight(0, 0);

    Model(int type) {
        this.type = Math.max(0, Math.min(3, type));
    }

    // ---- the document's mathematics

    static Weight turn(int type, int which, Weight v) {
        return which == 0 ? new Weight(-v.a, v.b - v.a * P[type]) : new Weight(v.a - v.b * Q[type], -v.b);
    }

    static List<Motion> motions(int type) {
        List<Motion> found = new ArrayList<>(List.of(new Motion(1, 0, 0, 1)));
        for (int i = 0; i < found.size(); i++) {
            for (int which = 0; which < 2; which++) {
                Weight one = turn(type, which, found.get(i).of(new Weight(1, 0)));
                Weight two = turn(type, which, found.get(i).of(new Weight(0, 1)));
                Motion next = new Motion(one.a, two.a, one.b, two.b);
                if (!found.contains(next)) {
                    found.add(next);
                }
            }
        }
        return found;
    }

    static Set<Weight> orbitOf(int type, Weight v) {
        Set<Weight> weights = new HashSet<>();
        for (Motion w : motions(type)) {
            weights.add(w.of(v));
        }
        return weights;
    }

    static Map<Weight, Integer> table(int type, int a, int b) {
        return TABLES.computeIfAbsent(List.of(type, a, b), key -> grown(type, a, b));
    }

    private static Map<Weight, Integer> grown(int type, int a, int b) {
        Map<Weight, Integer> numbers = Map.of(new Weight(a, b), 1);
        int longest = motions(type).size() / 2;
        for (int step = 0; step < longest; step++) {
            numbers = strung(type, step % 2, numbers);
        }
        return numbers;
    }

    /** Each weight becomes the string from it to where the turn takes it (Demazure's operator). */
    private static Map<Weight, Integer> strung(int type, int which, Map<Weight, Integer> numbers) {
        int da = which == 0 ? 2 : Q[type];
        int db = which == 0 ? P[type] : 2;
        Map<Weight, Integer> next = new HashMap<>();
        numbers.forEach((v, n) -> {
            int part = which == 0 ? v.a : v.b;
            for (int s = 0; s <= part; s++) {
                add(next, new Weight(v.a - s * da, v.b - s * db), n);
            }
            for (int s = 1; s < -part; s++) {
                add(next, new Weight(v.a + s * da, v.b + s * db), -n);
            }
        });
        return next;
    }

    private static void add(Map<Weight, Integer> numbers, Weight v, int n) {
        if (numbers.merge(v, n, Integer::sum) == 0) {
            numbers.remove(v);
        }
    }

    static Map<Weight, Integer> multiplied(Map<Weight, Integer> one, Map<Weight, Integer> two) {
        Map<Weight, Integer> all = new HashMap<>();
        one.forEach((v, n) -> two.forEach((w, m) -> add(all, new Weight(v.a + w.a, v.b + w.b), n * m)));
        return all;
    }

    /** The even half for sign 1, the odd half for sign -1. */
    static Map<Weight, Integer> half(Map<Weight, Integer> table, int sign) {
        Map<Weight, Integer> all = multiplied(table, table);
        table.forEach((v, n) -> add(all, new Weight(2 * v.a, 2 * v.b), sign * n));
        all.replaceAll((v, n) -> n / 2);
        return all;
    }

    /** Takes tables off until nothing is left; 5 a + 3 b falls by each root for every type. */
    static Map<Weight, Integer> madeOf(int type, Map<Weight, Integer> numbers) {
        Map<Weight, Integer> left = new HashMap<>(numbers);
        Map<Weight, Integer> times = new HashMap<>();
        while (!left.isEmpty()) {
            Weight top = null;
            for (Weight v : left.keySet()) {
                if (top == null || 5 * v.a + 3 * v.b > 5 * top.a + 3 * top.b) {
                    top = v;
                }
            }
            int often = left.get(top);
            times.put(top, often);
            table(type, top.a, top.b).forEach((v, n) -> add(left, v, -often * n));
        }
        return times;
    }

    static Map<Weight, Integer> inProduct(int type, Weight one, Weight two) {
        return MADE_OF.computeIfAbsent(List.of(0, type, one.a, one.b, two.a, two.b), key ->
                madeOf(type, multiplied(table(type, one.a, one.b), table(type, two.a, two.b))));
    }

    static Map<Weight, Integer> inHalf(int type, Weight one, int sign) {
        return MADE_OF.computeIfAbsent(List.of(sign, type, one.a, one.b), key ->
                madeOf(type, half(table(type, one.a, one.b), sign)));
    }

    // ---- the face

    int type(int type) {
        if (type < 0 || type > 3) {
            return -1;
        }
        int before = this.type;
        this.type = type;
        return before;
    }

    int first(int a, int b) {
        if (a < 0 || a > 3 || b < 0 || b > 3) {
            return -1;
        }
        first = new Weight(a, b);
        return table(type, a, b).size();
    }

    int second(int a, int b) {
        if (a < 0 || a > 3 || b < 0 || b > 3) {
            return -1;
        }
        second = new Weight(a, b);
        return table(type, a, b).size();
    }

    int number(int c, int d) {
        return beyond(c, d) ? -1 : firstTable().getOrDefault(new Weight(c, d), 0);
    }

    int size() {
        return firstTable().values().stream().mapToInt(n -> n).sum();
    }

    int most() {
        return firstTable().values().stream().mapToInt(n -> n).max().getAsInt();
    }

    int orbit(int c, int d) {
        return beyond(c, d) ? -1 : orbitOf(type, new Weight(c, d)).size();
    }

    int high(int c, int d) {
        if (beyond(c, d)) {
            return -1;
        }
        List<Weight> high = new ArrayList<>();
        for (Weight v : orbitOf(type, new Weight(c, d))) {
            if (v.a >= 0 && v.b >= 0) {
                high.add(v);
            }
        }
        if (high.size() != 1) {
            throw new IllegalStateException("not just one high weight: " + high);
        }
        return 1000 * high.get(0).a + high.get(0).b;
    }

    int product(int c, int d) {
        return beyond(c, d) ? -1 : inProduct(type, first, second).getOrDefault(new Weight(c, d), 0);
    }

    int kinds() {
        return inProduct(type, first, second).size();
    }

    int total() {
        return inProduct(type, first, second).values().stream().mapToInt(n -> n).sum();
    }

    int even(int c, int d) {
        return beyond(c, d) ? -1 : inHalf(type, first, 1).getOrDefault(new Weight(c, d), 0);
    }

    int odd(int c, int d) {
        return beyond(c, d) ? -1 : inHalf(type, first, -1).getOrDefault(new Weight(c, d), 0);
    }

    int along(int i, int k) {
        if (i != 0 && i != 1) {
            return -1;
        }
        return k < 0 || k > 40 ? -2 : lineSum(i, k) - lineSum(i, k + 2);
    }

    private int lineSum(int i, int k) {
        return firstTable().entrySet().stream()
                .filter(e -> (i == 0 ? e.getKey().a : e.getKey().b) == k)
                .mapToInt(Map.Entry::getValue).sum();
    }

    private Map<Weight, Integer> firstTable() {
        return table(type, first.a, first.b);
    }

    private static boolean beyond(int c, int d) {
        return c < -40 || c > 40 || d < -40 || d > 40;
    }
}
