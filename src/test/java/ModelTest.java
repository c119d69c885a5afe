import java.util.ArrayList;
import java.util.Arrays;
import java.util.Collections;
import java.util.Comparator;
import java.util.HashMap;
import java.util.LinkedHashSet;
import java.util.List;
import java.util.Map;
import java.util.Random;
import java.util.Set;

/**
 * Long runs of calls against a model that lists the whole group as the document defines it.
 * The runs are drawn from fixed seeds, so that they are the same each time.
 */
public final class ModelTest {
    private static final int RUNS = 600;
    private static final int CALLS = 512;

    private static long calls = 0;
    private static int wrong = 0;

    public static void main(String[] args) {
        allOfTwoGeneratorsOnFewPoints();
        wholeGroups();
        for (int seed = 0; seed < RUNS && wrong == 0; seed++) {
            randomRun(seed);
        }
        System.out.println(wrong == 0 ? calls + " answers are as due" : wrong + " answers are not as due");
        if (wrong != 0) {
            System.exit(1);
        }
    }

    /** The document's words with lists and sets; a permutation is a list of images. */
    private static final class Model {
        // Each model's own, so that a run's groups can be forgotten when it ends.
        private final Map<String, List<List<Integer>>> known = new HashMap<>();

        private int n = 5;
        private final List<List<Integer>> generators = new ArrayList<>();

        static List<Integer> read(int p, int n) {
            List<Integer> images = new ArrayList<>();
            for (int i = 0; i < n; i++) {
                images.add((p >>> 3 * i) % 8);
            }
            boolean same = write(images) == p;
            boolean all = new LinkedHashSet<>(images).size() == n && images.stream().allMatch(y -> y < n);
            return same && all ? images : null;
        }

        static int write(List<Integer> images) {
            int p = 0;
            for (int i = images.size() - 1; i >= 0; i--) {
                p = 8 * p + images.get(i);
            }
            return p;
        }

        static List<Integer> times(List<Integer> p, List<Integer> q) {
            List<Integer> images = new ArrayList<>();
            for (int y : p) {
                images.add(q.get(y));
            }
            return images;
        }

        static int compare(List<Integer> p, List<Integer> q) {
            return Arrays.compare(p.toArray(new Integer[0]), q.toArray(new Integer[0]));
        }

        List<Integer> same() {
            List<Integer> images = new ArrayList<>();
            for (int i = 0; i < n; i++) {
                images.add(i);
            }
            return images;
        }

        /** The elements in order; kept for the next question, since listing them is slow. */
        List<List<Integer>> group() {
            Set<List<Integer>> distinct = new LinkedHashSet<>(generators);
            return known.computeIfAbsent(n + ":" + distinct, key -> listed(distinct));
        }

        private List<List<Integer>> listed(Set<List<Integer>> distinct) {
            Set<List<Integer>> seen = new LinkedHashSet<>();
            List<List<Integer>> waiting = new ArrayList<>();
            seen.add(same());
            waiting.add(same());
            for (int i = 0; i < waiting.size(); i++) {
                for (List<Integer> g : distinct) {
                    List<Integer> next = times(waiting.get(i), g);
                    if (seen.add(next)) {
                        waiting.add(next);
                    }
                }
            }
            waiting.sort(Model::compare);
            return waiting;
        }

        boolean points(int points) {
            if (points < 1 || points > 7) {
                return false;
            }
            n = points;
            generators.clear();
            return true;
        }

        int add(int p) {
            if (read(p, n) == null) {
                return -1;
            }
            if (generators.size() == 12) {
                return -2;
            }
            generators.add(read(p, n));
            return generators.size() - 1;
        }

        boolean drop() {
            if (generators.isEmpty()) {
                return false;
            }
            generators.remove(generators.size() - 1);
            return true;
        }

        int generator(int k) {
            return k >= 0 && k < generators.size() ? write(generators.get(k)) : -1;
        }

        int product(int p, int q) {
            return read(p, n) == null || read(q, n) == null ? -1 : write(times(read(p, n), read(q, n)));
        }

        int inverse(int p) {
            List<Integer> images = read(p, n);
            if (images == null) {
                return -1;
            }
            List<Integer> result = new ArrayList<>();
            for (int y = 0; y < n; y++) {
                result.add(images.indexOf(y));
            }
            return write(result);
        }

        boolean contains(int p) {
            return read(p, n) != null && group().contains(read(p, n));
        }

        String element(int k) {
            return k < 0 || k >= group().size() ? "throws.IndexOutOfBoundsException" : "" + write(group().get(k));
        }

        String rank(int p) {
            if (read(p, n) == null) {
                return "throws.IllegalArgumentException";
            }
            int place = group().indexOf(read(p, n));
            return place < 0 ? "throws.NoSuchElementException" : "" + place;
        }

        String least(int p) {
            List<Integer> images = read(p, n);
            if (images == null) {
                return "throws.IllegalArgumentException";
            }
            Comparator<List<Integer>> order = Model::compare;
            return "" + write(group().stream().map(g -> times(g, images)).min(order).get());
        }

        int orbit(int x) {
            return x < 0 || x >= n ? 0 : group().stream().mapToInt(g -> g.get(x)).distinct().map(y -> 1 << y).sum();
        }

        int fixing(int k) {
            if (k < 0 || k > n) {
                return 0;
            }
            return (int) group().stream().filter(g -> g.subList(0, k).equals(same().subList(0, k))).count();
        }

        int even() {
            return (int) group().stream().filter(Model::isEven).count();
        }

        private static boolean isEven(List<Integer> p) {
            int pairs = 0;
            for (int i = 0; i < p.size(); i++) {
                for (int j = i + 1; j < p.size(); j++) {
                    pairs += p.get(i) > p.get(j) ? 1 : 0;
                }
            }
            return pairs % 2 == 0;
        }
    }

    private interface Call {
        Object answer();
    }

    private static String answerOf(Call call) {
        try {
            return "" + call.answer();
        } catch (RuntimeException e) {
            return "throws." + e.getClass().getSimpleName();
        }
    }

    private static void due(String what, Call got, Object want) {
        calls++;
        String answer = answerOf(got);
        if (!answer.equals("" + want)) {
            wrong++;
            System.out.println(what + " answered " + answer + ", due is " + want);
        }
    }

    /**
     * The tested object with the model's generators; made anew when it has had its calls, since the document
     * leaves free what later ones answer.
     */
    private static final class Tested {
        private final Model model;
        private PermGroup object;
        private int used;

        Tested(Model model) {
            this.model = model;
            renew();
        }

        private void renew() {
            object = new PermGroup();
            due("points", () -> object.points(model.n), true);
            for (int k = 0; k < model.generators.size(); k++) {
                int p = model.generator(k);
                due("add", () -> object.add(p), k);
            }
            used = 1 + model.generators.size();
        }

        PermGroup next() {
            if (used == CALLS) {
                renew();
            }
            used++;
            return object;
        }
    }

    private static List<Integer> allPermutations(int n) {
        List<Integer> found = new ArrayList<>();
        for (int p = 0; p < 1 << 3 * n; p++) {
            if (Model.read(p, n) != null) {
                found.add(p);
            }
        }
        return found;
    }

    private static void allOfTwoGeneratorsOnFewPoints() {
        for (int n = 1; n <= 4; n++) {
            List<Integer> all = allPermutations(n);
            for (int p : all) {
                for (int q : all) {
                    Model model = new Model();
                    model.points(n);
                    model.add(p);
                    model.add(q);
                    compareWhole(model, all);
                }
            }
        }
    }

    private static void wholeGroups() {
        Random random = new Random(7);
        for (int n = 5; n <= 7; n++) {
            List<Integer> all = allPermutations(n);
            for (int round = 0; round < (n == 7 ? 6 : 30); round++) {
                Model model = new Model();
                model.points(n);
                for (int k = 0; k <= round % 3; k++) {
                    model.add(smallOrder(all.get(random.nextInt(all.size())), model));
                }
                compareWhole(model, all);
            }
        }
    }

    /** A power of p: such generate smaller groups than permutations drawn evenly, which nearly always make all. */
    private static int smallOrder(int p, Model model) {
        List<Integer> images = Model.read(p, model.n);
        List<Integer> square = Model.times(images, images);
        return Model.write(square.equals(model.same()) ? images : square);
    }

    private static void compareWhole(Model model, List<Integer> all) {
        String what = model.n + " points, generators " + model.generators + ": ";
        Tested x = new Tested(model);
        Map<List<Integer>, Integer> places = new HashMap<>();
        List<List<Integer>> group = model.group();
        for (int k = 0; k < group.size(); k++) {
            int number = k;
            places.put(group.get(k), k);
            due(what + "element " + k, () -> x.next().element(number), Model.write(group.get(k)));
        }
        due(what + "element " + group.size(), () -> x.next().element(group.size()), "throws.IndexOutOfBoundsException");
        due(what + "order", () -> x.next().order(), group.size());
        due(what + "even", () -> x.next().even(), model.even());
        for (int p : all) {
            Integer place = places.get(Model.read(p, model.n));
            due(what + "contains " + p, () -> x.next().contains(p), place != null);
            due(what + "rank " + p, () -> x.next().rank(p), place == null ? "throws.NoSuchElementException" : place);
            if (all.size() <= 120) {
                due(what + "least " + p, () -> x.next().least(p), model.least(p));
            }
        }
        for (int k = -1; k <= model.n + 1; k++) {
            int number = k;
            due(what + "orbit " + k, () -> x.next().orbit(number), model.orbit(k));
            due(what + "fixing " + k, () -> x.next().fixing(number), model.fixing(k));
        }
    }

    private static void randomRun(int seed) {
        Random random = new Random(seed);
        PermGroup x = new PermGroup();
        Model model = new Model();
        for (int i = 0; i < CALLS && wrong == 0; i++) {
            oneCall("seed " + seed + ", call " + i + ": ", random, x, model);
        }
    }

    private static void oneCall(String where, Random random, PermGroup x, Model model) {
        int p = drawn(random, model);
        int q = drawn(random, model);
        int k = drawnNumber(random, model);
        switch (random.nextInt(22)) {
            case 0 -> {
                // Rare, so that the generators come to twelve in some runs.
                int n = random.nextInt(6) == 0 ? random.nextInt(11) - 1 : 0;
                due(where + "points " + n, () -> x.points(n), model.points(n));
            }
            case 1 -> due(where + "degree", x::degree, model.n);
            case 2, 3, 4 -> due(where + "add " + p, () -> x.add(p), model.add(p));
            case 5, 6 -> due(where + "drop", x::drop, model.drop());
            case 7 -> due(where + "generators", x::generators, model.generators.size());
            case 8 -> due(where + "generator " + k, () -> x.generator(k), model.generator(k));
            case 9 -> due(where + "product " + p + " " + q, () -> x.product(p, q), model.product(p, q));
            case 10 -> due(where + "inverse " + p, () -> x.inverse(p), model.inverse(p));
            case 11 -> due(where + "order", x::order, model.group().size());
            case 12, 13 -> due(where + "contains " + p, () -> x.contains(p), model.contains(p));
            case 14, 15 -> due(where + "element " + k, () -> x.element(k), model.element(k));
            case 16, 17 -> due(where + "rank " + p, () -> x.rank(p), model.rank(p));
            case 18 -> due(where + "least " + p, () -> x.least(p), model.least(p));
            case 19 -> due(where + "orbit " + k, () -> x.orbit(k), model.orbit(k));
            case 20 -> due(where + "fixing " + k, () -> x.fixing(k), model.fixing(k));
            default -> due(where + "even", x::even, model.even());
        }
    }

    /** Mostly a permutation, often an element or one that moves few points; now and then something wrong. */
    private static int drawn(Random random, Model model) {
        int kind = random.nextInt(20);
        if (kind == 0) {
            return random.nextInt();
        }
        List<Integer> images = model.same();
        if (kind < 8) {
            List<List<Integer>> group = model.group();
            images = new ArrayList<>(group.get(random.nextInt(group.size())));
        }
        int swaps = kind < 4 ? 0 : random.nextInt(kind < 15 ? 3 : 8);
        for (int s = 0; s < swaps; s++) {
            Collections.swap(images, random.nextInt(model.n), random.nextInt(model.n));
        }
        int p = Model.write(images);
        return kind == 19 ? p ^ 1 << random.nextInt(32) : p;
    }

    private static int drawnNumber(Random random, Model model) {
        return switch (random.nextInt(8)) {
            case 0 -> random.nextInt();
            case 1 -> -1 - random.nextInt(3);
            case 2 -> model.group().size() - random.nextInt(3);
            case 3 -> random.nextInt(model.group().size());
            default -> random.nextInt(10);
        };
    }
}
