import java.util.ArrayList;
import java.util.Arrays;
import java.util.LinkedHashMap;
import java.util.List;
import java.util.Map;
import java.util.function.Function;
import java.util.function.Supplier;

/**
 * Each sentence of the document that names a boundary case, by a test of its own: the last value that is
 * still accepted and the first that is not, the largest and the smallest int, no generators and 12 of them,
 * and behind a refused or throwing call that nothing has changed.
 *
 * No object here has more than its 512 calls, since the document leaves free what later ones answer.
 */
public final class BoundaryTest {
    private static final int LEAST_INT = Integer.MIN_VALUE;
    private static final int LARGEST_INT = Integer.MAX_VALUE;
    private static final String NO_INDEX = "throws java.lang.IndexOutOfBoundsException";
    private static final String NO_PERMUTATION = "throws java.lang.IllegalArgumentException";
    private static final String NO_ELEMENT = "throws java.util.NoSuchElementException";

    private static final int SAME = perm(0, 1, 2, 3, 4);
    private static final int SWAP = perm(1, 0, 2, 3, 4);
    private static final int CYCLE = perm(1, 2, 3, 4, 0);

    /** Twelve generators on seven points, with equal ones and the identity; the last one alone brings all. */
    private static final int[] STAIRS = {
        perm(0, 1, 2, 3, 4, 6, 5),
        perm(0, 1, 2, 3, 4, 5, 6),
        perm(0, 1, 2, 3, 4, 6, 5),
        perm(0, 1, 2, 4, 3, 5, 6),
        perm(1, 0, 2, 3, 4, 5, 6),
        perm(1, 0, 2, 4, 3, 5, 6),
        perm(0, 1, 2, 5, 6, 3, 4),
        perm(0, 1, 2, 3, 5, 4, 6),
        perm(0, 1, 2, 3, 4, 5, 6),
        perm(0, 2, 1, 3, 4, 5, 6),
        perm(2, 1, 0, 3, 4, 5, 6),
        perm(0, 1, 3, 2, 4, 5, 6),
    };
    /** The order of the group that the first k of them generate, for k from 0 to 12. */
    private static final int[] STAIR_ORDERS = {1, 2, 2, 2, 4, 8, 8, 16, 48, 48, 144, 144, 5040};

    /** A broken object can take very long over its next calls, so that many faults end the test. */
    private static final int MOST_FAULTS = 50;

    private static String sentence = "";
    private static int answers = 0;
    private static int wrong = 0;

    public static void main(String[] args) {
        callsUpToTheLast();
        imagesAreThePoints();
        otherBitsAreZero();
        everyIntOfFewPoints();
        identityIsFirst();
        orderIsNotThatOfInts();
        equalGeneratorsCount();
        noGenerators();
        refusedChangesNothing();
        questionsChangeNothing();
        newObjectIsAsAfterPointsFive();
        pointsTakesOneToSeven();
        pointsLeavesNoGenerators();
        degreeAtBothEnds();
        addNumbersFromZero();
        addRefusesNoPermutation();
        addRefusesTheThirteenth();
        addTellsNoPermutationFirst();
        dropTakesTheLastOne();
        dropRefusesWithoutGenerators();
        generatorsFromNoneToTwelve();
        generatorAtBothEnds();
        productRefusesEither();
        productFirstThenSecond();
        inverseAtBothEnds();
        orderFromOneToAll();
        containsAtBothEnds();
        elementAtBothEnds();
        rankAtBothEnds();
        rankTellsNoPermutationFirst();
        leastAtBothEnds();
        orbitAtBothEnds();
        fixingAtBothEnds();
        evenAtBothEnds();
        end();
    }

    private static void end() {
        System.out.println(wrong == 0 ? answers + " answers are as due" : wrong + " answers are not as due");
        System.exit(wrong == 0 ? 0 : 1);
    }

    private static int perm(int... images) {
        int p = 0;
        for (int i = 0; i < images.length; i++) {
            p |= images[i] << 3 * i;
        }
        return p;
    }

    private static int identity(int n) {
        int p = 0;
        for (int i = 0; i < n; i++) {
            p |= i << 3 * i;
        }
        return p;
    }

    private static int reversed(int n) {
        int p = 0;
        for (int i = 0; i < n; i++) {
            p |= n - 1 - i << 3 * i;
        }
        return p;
    }

    private static int cycle(int n) {
        int p = 0;
        for (int i = 0; i < n; i++) {
            p |= (i + 1) % n << 3 * i;
        }
        return p;
    }

    /** The swap of the first two points; with one point there is none, and it is the identity. */
    private static int swap(int n) {
        return n == 1 ? 0 : identity(n) & ~077 | 001;
    }

    private static int withImage(int p, int i, int y) {
        return p & ~(7 << 3 * i) | y << 3 * i;
    }

    private static PermGroup group(int n, int... generators) {
        PermGroup x = new PermGroup();
        x.points(n);
        for (int p : generators) {
            x.add(p);
        }
        return x;
    }

    private static PermGroup all(int n) {
        return group(n, cycle(n), swap(n));
    }

    private static PermGroup stairs(int count) {
        return group(7, Arrays.copyOf(STAIRS, count));
    }

    private static int factorial(int n) {
        return n <= 1 ? 1 : n * factorial(n - 1);
    }

    private static Object answerOf(Supplier<Object> call) {
        try {
            return call.get();
        } catch (RuntimeException e) {
            return "throws " + e.getClass().getName();
        }
    }

    private static boolean due(String call, Object want, Supplier<Object> got) {
        answers++;
        Object answer = answerOf(got);
        boolean asDue = want.equals(answer);
        if (!asDue) {
            wrong++;
            System.out.println("\"" + sentence + "\": " + call + " answered " + answer + ", due is " + want);
            if (wrong == MOST_FAULTS) {
                end();
            }
        }
        return asDue;
    }

    /** What the questions answer, with every generator and then with one less after the other. */
    private static List<Object> seen(PermGroup x) {
        List<Object> found = new ArrayList<>();
        int n = x.degree();
        found.add(n);
        found.add(x.generators());
        for (int k = 0; k <= 12; k++) {
            found.add(x.generator(k));
        }
        for (int k = 0; k <= n; k++) {
            found.add(x.fixing(k));
            found.add(x.orbit(k));
        }
        for (int p : new int[] {identity(n), reversed(n), cycle(n), swap(n), x.product(cycle(n), swap(n))}) {
            found.add(x.contains(p));
            found.add(x.least(p));
            found.add(x.inverse(p));
            found.add(answerOf(() -> x.rank(p)));
        }
        int count = x.generators();
        for (int k = 0; k <= count; k++) {
            int order = x.order();
            found.add(order);
            found.add(x.even());
            found.add(x.element(order / 2));
            found.add(x.element(order - 1));
            found.add(x.drop());
        }
        return found;
    }

    /** Objects at the edges of what can be held, each made anew by its maker. */
    private static Map<String, Supplier<PermGroup>> states() {
        Map<String, Supplier<PermGroup>> states = new LinkedHashMap<>();
        states.put("a new object", PermGroup::new);
        states.put("one point, no generators", () -> group(1));
        states.put("one point, 12 generators", () -> group(1, new int[12]));
        states.put("two points, one generator", () -> group(2, swap(2)));
        states.put("5 points, two generators", () -> group(5, perm(1, 2, 0, 3, 4), SWAP));
        states.put("7 points, no generators", () -> group(7));
        states.put("7 points, 11 generators", () -> stairs(11));
        states.put("7 points, 12 generators", () -> stairs(12));
        states.put("7 points, 12 generators, and 5 of them dropped", () -> {
            PermGroup x = stairs(12);
            for (int k = 0; k < 5; k++) {
                x.drop();
            }
            return x;
        });
        states.put("4 points after 7 with 12 generators", () -> {
            PermGroup x = stairs(12);
            x.points(4);
            x.add(perm(1, 0, 3, 2));
            return x;
        });
        return states;
    }

    private static int[] wrongPermutations(int n) {
        List<Integer> found = new ArrayList<>();
        for (int right : new int[] {identity(n), reversed(n), cycle(n)}) {
            for (int i = 0; i < n; i++) {
                found.add(withImage(right, i, n));
                found.add(withImage(right, i, 7));
            }
            for (int bit = 3 * n; bit < 32; bit++) {
                found.add(right | 1 << bit);
            }
        }
        for (int i = 1; i < n; i++) {
            found.add(withImage(identity(n), i, i - 1));
            found.add(withImage(identity(n), i - 1, i));
            found.add(withImage(reversed(n), i, n - 1));
        }
        if (n > 1) {
            found.add(0);
            found.add(identity(n - 1));
        }
        if (n < 7) {
            found.add(identity(n + 1));
            found.add(reversed(n + 1));
        }
        for (int p : new int[] {-1, LEAST_INT, LEAST_INT + 1, LARGEST_INT, LARGEST_INT - 1, ~identity(n)}) {
            found.add(p);
        }
        return found.stream().mapToInt(p -> p).distinct().toArray();
    }

    /** That every call which asks for a permutation takes p for none, whatever the group. */
    private static void takenForNone(int n, int p) {
        int right = cycle(n);
        for (PermGroup x : List.of(group(n), all(n))) {
            String where = " with " + n + " points, order " + x.order();
            due("add(" + p + ")" + where, -1, () -> x.add(p));
            due("product(" + p + ", ..)" + where, -1, () -> x.product(p, right));
            due("product(.., " + p + ")" + where, -1, () -> x.product(right, p));
            due("product(" + p + ", " + p + ")" + where, -1, () -> x.product(p, p));
            due("inverse(" + p + ")" + where, -1, () -> x.inverse(p));
            due("contains(" + p + ")" + where, false, () -> x.contains(p));
            due("rank(" + p + ")" + where, NO_PERMUTATION, () -> x.rank(p));
            due("least(" + p + ")" + where, NO_PERMUTATION, () -> x.least(p));
        }
    }

    private static void takenForOne(int n, int p) {
        PermGroup x = all(n);
        String where = " with " + n + " points";
        due("product(" + p + ", identity)" + where, p, () -> x.product(p, identity(n)));
        due("product(identity, " + p + ")" + where, p, () -> x.product(identity(n), p));
        due("product with its inverse" + where, identity(n), () -> x.product(x.inverse(p), p));
        due("contains(" + p + ")" + where, true, () -> x.contains(p));
        due("element(rank(" + p + "))" + where, p, () -> x.element(x.rank(p)));
        due("least(" + p + ")" + where, identity(n), () -> x.least(p));
        due("add(" + p + ")" + where, 2, () -> x.add(p));
        due("generator(2)" + where, p, () -> x.generator(2));
    }

    private static void callsUpToTheLast() {
        sentence = "An object is used for at most 512 calls after it has been made";
        PermGroup x = new PermGroup();
        int calls = 1;
        due("call 1, points(7)", true, () -> x.points(7));
        // Up and down the stairs, so that the 512th call, the last of the object, is asked on a used object.
        while (calls < 512) {
            for (int step = 0; step < 48 && calls < 512; step++) {
                calls++;
                int k = step < 24 ? step / 2 : 11 - (step - 24) / 2;
                boolean up = step < 24;
                if (step % 2 == 0) {
                    due("call " + calls, up ? (Object) k : true, () -> up ? (Object) x.add(STAIRS[k]) : x.drop());
                } else {
                    due("call " + calls + ", order()", STAIR_ORDERS[up ? k + 1 : k], x::order);
                }
            }
        }
    }

    private static void imagesAreThePoints() {
        sentence = "the images of the n points are the n points in some order";
        for (int n = 1; n <= 7; n++) {
            for (int p : new int[] {identity(n), reversed(n), cycle(n), swap(n)}) {
                takenForOne(n, p);
            }
            for (int i = 0; i < n; i++) {
                for (int y = n; y <= 7; y++) {
                    takenForNone(n, withImage(identity(n), i, y));
                    takenForNone(n, withImage(reversed(n), i, y));
                }
                for (int y = 0; y < n; y++) {
                    if (y != i) {
                        takenForNone(n, withImage(identity(n), i, y));
                    }
                }
            }
        }
    }

    private static void otherBitsAreZero() {
        sentence = "and all other bits are 0";
        for (int n = 1; n <= 7; n++) {
            for (int bit = 3 * n; bit < 32; bit++) {
                takenForNone(n, identity(n) | 1 << bit);
                takenForNone(n, cycle(n) | 1 << bit);
                takenForNone(n, 1 << bit);
            }
            takenForNone(n, identity(n) | -1 << 3 * n);
            takenForNone(n, reversed(n) | -1 << 3 * n);
            takenForNone(n, -1);
            takenForNone(n, LEAST_INT);
            takenForNone(n, LARGEST_INT);
            if (n < 7) {
                takenForNone(n, identity(n + 1));
            }
            if (n > 1) {
                takenForNone(n, identity(n - 1));
            }
        }
    }

    private static void everyIntOfFewPoints() {
        sentence = "A PERMUTATION is an int p that gives each point i its IMAGE";
        int[][] right = {
            {},
            {perm(0)},
            {perm(0, 1), perm(1, 0)},
            {perm(0, 1, 2), perm(0, 2, 1), perm(1, 0, 2), perm(1, 2, 0), perm(2, 0, 1), perm(2, 1, 0)},
        };
        for (int n = 1; n <= 3; n++) {
            for (int p = -2; p < 8 << 3 * n; p++) {
                int asked = p;
                boolean wanted = Arrays.stream(right[n]).anyMatch(r -> r == asked);
                PermGroup x = all(n);
                due("contains(" + p + ") with all on " + n + " points", wanted, () -> x.contains(asked));
                due("product(" + p + ", identity)", wanted ? p : -1, () -> x.product(asked, identity(x.degree())));
                due("add(" + p + ") with " + n + " points", wanted ? 2 : -1, () -> x.add(asked));
            }
        }
    }

    private static void identityIsFirst() {
        sentence = "The IDENTITY gives each point itself";
        for (int n = 1; n <= 7; n++) {
            for (PermGroup x : List.of(group(n), all(n), group(n, reversed(n)))) {
                int same = identity(n);
                due("contains the identity of " + n + " points", true, () -> x.contains(same));
                due("rank of the identity of " + n + " points", 0, () -> x.rank(same));
                due("element(0) on " + n + " points", same, () -> x.element(0));
                due("inverse of the identity of " + n + " points", same, () -> x.inverse(same));
            }
        }
    }

    private static void orderIsNotThatOfInts() {
        sentence = "(not as ints)";
        PermGroup x = all(3);
        int[] inOrder = {perm(0, 1, 2), perm(0, 2, 1), perm(1, 0, 2), perm(1, 2, 0), perm(2, 0, 1), perm(2, 1, 0)};
        for (int k = 0; k < 6; k++) {
            int place = k;
            due("element(" + k + ")", inOrder[k], () -> x.element(place));
            due("rank of " + inOrder[k], k, () -> x.rank(inOrder[place]));
        }
        PermGroup half = group(3, perm(1, 0, 2));
        // As ints it would be the other of the two products: 2 0 1 is octal 102, and 0 2 1 is octal 120.
        due("least(2 0 1)", perm(0, 2, 1), () -> half.least(perm(2, 0, 1)));
        due("least(0 2 1)", perm(0, 2, 1), () -> half.least(perm(0, 2, 1)));
    }

    private static void equalGeneratorsCount() {
        sentence = "in the order in which they were added, equal ones too";
        PermGroup x = new PermGroup();
        for (int k = 0; k < 12; k++) {
            int number = k;
            due("add of the same, " + k, k, () -> x.add(CYCLE));
            due("generators()", k + 1, x::generators);
            due("generator(" + k + ")", CYCLE, () -> x.generator(number));
        }
        due("add of the same, a thirteenth", -2, () -> x.add(CYCLE));
        due("order()", 5, x::order);
        PermGroup stairs = stairs(12);
        for (int k = 0; k < 12; k++) {
            int number = k;
            due("generator(" + k + ")", STAIRS[k], () -> stairs.generator(number));
        }
        PermGroup same = group(5, new int[] {SAME, SAME, SAME});
        due("generators() with the identity thrice", 3, same::generators);
        due("order() with the identity thrice", 1, same::order);
    }

    private static void noGenerators() {
        sentence = "without generators the identity alone";
        for (int n = 1; n <= 7; n++) {
            PermGroup never = group(n);
            PermGroup dropped = all(n);
            dropped.drop();
            dropped.drop();
            PermGroup again = all(n);
            again.points(n);
            for (PermGroup x : List.of(never, dropped, again)) {
                identityAlone(n, x);
            }
        }
    }

    private static void identityAlone(int n, PermGroup x) {
        int same = identity(n);
        due("order() on " + n + " points", 1, x::order);
        due("even() on " + n + " points", 1, x::even);
        due("element(0)", same, () -> x.element(0));
        due("element(1)", NO_INDEX, () -> x.element(1));
        due("rank of the identity", 0, () -> x.rank(same));
        due("contains the identity", true, () -> x.contains(same));
        for (int p : new int[] {reversed(n), cycle(n), swap(n)}) {
            due("least(" + p + ") is itself", p, () -> x.least(p));
            if (p != same) {
                due("contains(" + p + ")", false, () -> x.contains(p));
                due("rank(" + p + ")", NO_ELEMENT, () -> x.rank(p));
            }
        }
        for (int k = 0; k <= n; k++) {
            int number = k;
            due("fixing(" + k + ")", 1, () -> x.fixing(number));
            due("orbit(" + k + ")", k < n ? 1 << k : 0, () -> x.orbit(number));
        }
    }

    /** Every kind of call that an object in this state refuses or answers by throwing, with what is due. */
    private static Map<String, Refusal> refusals(PermGroup state) {
        int n = state.degree();
        int count = state.generators();
        int order = state.order();
        Map<String, Refusal> found = new LinkedHashMap<>();
        for (int k : new int[] {0, 8, -1, LEAST_INT, LARGEST_INT}) {
            found.put("points(" + k + ")", new Refusal(false, x -> x.points(k)));
        }
        for (int k : new int[] {-1, count, 12, LEAST_INT, LARGEST_INT}) {
            found.put("generator(" + k + ")", new Refusal(-1, x -> x.generator(k)));
        }
        for (int k : new int[] {-1, order, 5040, LEAST_INT, LARGEST_INT}) {
            found.put("element(" + k + ")", new Refusal(NO_INDEX, x -> x.element(k)));
        }
        for (int k : new int[] {-1, n, 7, 32, LEAST_INT, LARGEST_INT}) {
            found.put("orbit(" + k + ")", new Refusal(0, x -> x.orbit(k)));
        }
        for (int k : new int[] {-1, n + 1, 8, LEAST_INT, LARGEST_INT}) {
            found.put("fixing(" + k + ")", new Refusal(0, x -> x.fixing(k)));
        }
        for (int p : wrongPermutations(n)) {
            found.put("add(" + p + ")", new Refusal(-1, x -> x.add(p)));
            found.put("product(" + p + ", ..)", new Refusal(-1, x -> x.product(p, cycle(n))));
            found.put("product(.., " + p + ")", new Refusal(-1, x -> x.product(cycle(n), p)));
            found.put("inverse(" + p + ")", new Refusal(-1, x -> x.inverse(p)));
            found.put("contains(" + p + ")", new Refusal(false, x -> x.contains(p)));
            found.put("rank(" + p + ")", new Refusal(NO_PERMUTATION, x -> x.rank(p)));
            found.put("least(" + p + ")", new Refusal(NO_PERMUTATION, x -> x.least(p)));
        }
        for (int p : new int[] {reversed(n), cycle(n), swap(n)}) {
            if (!state.contains(p)) {
                found.put("rank(" + p + ")", new Refusal(NO_ELEMENT, x -> x.rank(p)));
            }
            if (count == 12) {
                found.put("add(" + p + ")", new Refusal(-2, x -> x.add(p)));
            }
        }
        if (count == 0) {
            found.put("drop()", new Refusal(false, PermGroup::drop));
        }
        return found;
    }

    private record Refusal(Object want, Function<PermGroup, Object> call) {
    }

    private static void refusedChangesNothing() {
        sentence = "A call that is refused, or throws, changes nothing";
        states().forEach((name, maker) -> {
            List<Object> before = seen(maker.get());
            refusals(maker.get()).forEach((call, refusal) -> {
                PermGroup x = maker.get();
                if (!due(call + " on " + name, refusal.want, () -> refusal.call.apply(x))) {
                    return;
                }
                due(call + " once more on " + name, refusal.want, () -> refusal.call.apply(x));
                due("the questions after " + call + " on " + name, before, () -> seen(x));
            });
        });
    }

    private static void questionsChangeNothing() {
        sentence = "Questions change nothing";
        states().forEach((name, maker) -> {
            List<Object> before = seen(maker.get());
            int n = maker.get().degree();
            int last = maker.get().order() - 1;
            Map<String, Function<PermGroup, Object>> questions = new LinkedHashMap<>();
            questions.put("degree", PermGroup::degree);
            questions.put("generators", PermGroup::generators);
            questions.put("generator", x -> x.generator(0));
            questions.put("product", x -> x.product(cycle(n), swap(n)));
            questions.put("inverse", x -> x.inverse(cycle(n)));
            questions.put("order", PermGroup::order);
            questions.put("contains", x -> x.contains(cycle(n)));
            questions.put("element", x -> x.element(last));
            questions.put("rank", x -> x.rank(identity(n)));
            questions.put("least", x -> x.least(reversed(n)));
            questions.put("orbit", x -> x.orbit(0));
            questions.put("fixing", x -> x.fixing(n));
            questions.put("even", PermGroup::even);
            questions.forEach((call, question) -> {
                PermGroup x = maker.get();
                Object first = answerOf(() -> question.apply(x));
                due(call + " asked again on " + name, first, () -> question.apply(x));
                due("the questions after " + call + " on " + name, before, () -> seen(x));
            });
        });
    }

    private static void newObjectIsAsAfterPointsFive() {
        sentence = "As after points(5)";
        PermGroup x = new PermGroup();
        due("degree()", 5, x::degree);
        due("generators()", 0, x::generators);
        due("all questions", seen(group(5)), () -> seen(new PermGroup()));
        due("all questions after generators", seen(group(5, CYCLE, SWAP)), () -> {
            PermGroup y = new PermGroup();
            y.add(CYCLE);
            y.add(SWAP);
            return seen(y);
        });
        due("add of a permutation of 4 points", -1, () -> new PermGroup().add(cycle(4)));
        due("add of a permutation of 6 points", -1, () -> new PermGroup().add(cycle(6)));
        PermGroup used = stairs(12);
        due("all questions after points(5) on a used object", seen(new PermGroup()), () -> {
            used.points(5);
            return seen(used);
        });
    }

    private static void pointsTakesOneToSeven() {
        sentence = "false if n is not 1 .. 7";
        for (int k : new int[] {1, 2, 3, 4, 5, 6, 7}) {
            PermGroup x = new PermGroup();
            due("points(" + k + ")", true, () -> x.points(k));
            due("degree() after points(" + k + ")", k, x::degree);
        }
        // The multiples of 8, 32 and 2^16 beside 1 and 7 would be taken for them where n were cut to few bits.
        int[] refused = {0, 8, -1, -7, 9, 15, 33, 39, 65537, 65543, LEAST_INT, LEAST_INT + 1, LEAST_INT + 5,
            LARGEST_INT, LARGEST_INT - 2};
        for (int k : refused) {
            for (PermGroup x : List.of(new PermGroup(), stairs(12))) {
                int n = x.degree();
                int order = x.order();
                if (due("points(" + k + ")", false, () -> x.points(k))) {
                    due("degree() after points(" + k + ")", n, x::degree);
                    due("order() after points(" + k + ")", order, x::order);
                }
            }
        }
    }

    private static void pointsLeavesNoGenerators() {
        sentence = "n points and no generators";
        for (int n = 1; n <= 7; n++) {
            int points = n;
            for (int from = 1; from <= 7; from++) {
                PermGroup x = from == 7 ? stairs(12) : all(from);
                due("points(" + n + ") from " + from, true, () -> x.points(points));
                due("generators() with " + n + " points from " + from, 0, x::generators);
                due("generator(0) with " + n + " points from " + from, -1, () -> x.generator(0));
                due("drop() with " + n + " points from " + from, false, x::drop);
                identityAlone(n, x);
                due("add with " + n + " points from " + from, 0, () -> x.add(cycle(points)));
                due("order() with " + n + " points from " + from, n, x::order);
                due("add with " + n + " points from " + from, 1, () -> x.add(swap(points)));
                due("order() with " + n + " points from " + from, factorial(n), x::order);
            }
        }
    }

    private static void degreeAtBothEnds() {
        sentence = "degree: n";
        due("degree() with one point", 1, group(1)::degree);
        due("degree() with seven points", 7, group(7)::degree);
        due("degree() with 12 generators", 7, stairs(12)::degree);
        for (int n : new int[] {1, 7}) {
            PermGroup x = group(n);
            for (int k : new int[] {0, 8, LEAST_INT, LARGEST_INT}) {
                x.points(k);
                due("degree() of " + n + " points after points(" + k + ")", n, x::degree);
            }
        }
    }

    private static void addNumbersFromZero() {
        sentence = "Adds a generator: its number (0 the first)";
        for (int n = 1; n <= 7; n++) {
            int points = n;
            PermGroup x = group(n);
            for (int k = 0; k < 12; k++) {
                int number = k;
                due("add with " + n + " points", k, () -> x.add(number % 2 == 0 ? cycle(points) : swap(points)));
            }
            due("order() with " + n + " points", factorial(n), x::order);
        }
        PermGroup x = group(7);
        for (int k = 0; k < 12; k++) {
            int number = k;
            due("add up the stairs", k, () -> x.add(STAIRS[number]));
            due("order() with " + (k + 1), STAIR_ORDERS[k + 1], x::order);
        }
        PermGroup again = stairs(12);
        again.drop();
        again.drop();
        due("add when two of 12 were dropped", 10, () -> again.add(STAIRS[11]));
        due("add of the twelfth again", 11, () -> again.add(STAIRS[0]));
    }

    private static void addRefusesNoPermutation() {
        sentence = "-1 if p is no permutation";
        for (int n = 1; n <= 7; n++) {
            for (int p : wrongPermutations(n)) {
                PermGroup x = group(n, cycle(n));
                due("add(" + p + ") with " + n + " points", -1, () -> x.add(p));
                due("generators() after add(" + p + ")", 1, x::generators);
                due("order() after add(" + p + ")", x.degree(), x::order);
                due("the next number after add(" + p + ")", 1, () -> x.add(identity(x.degree())));
            }
        }
    }

    private static void addRefusesTheThirteenth() {
        sentence = "else -2 if there are 12";
        PermGroup eleven = stairs(11);
        due("add of the twelfth", 11, () -> eleven.add(STAIRS[11]));
        due("add of the thirteenth", -2, () -> eleven.add(cycle(7)));
        PermGroup x = group(5, new int[] {SWAP, SWAP, SWAP, SWAP, SWAP, SWAP, SWAP, SWAP, SWAP, SWAP, SWAP, SWAP});
        for (int p : new int[] {CYCLE, SWAP, SAME}) {
            due("add(" + p + ") as the thirteenth", -2, () -> x.add(p));
            due("generators()", 12, x::generators);
            due("generator(11)", SWAP, () -> x.generator(11));
            due("generator(12)", -1, () -> x.generator(12));
            due("order()", 2, x::order);
            due("contains(CYCLE)", false, () -> x.contains(CYCLE));
            due("orbit(0)", 3, () -> x.orbit(0));
            due("even()", 1, x::even);
        }
        due("drop()", true, x::drop);
        due("order() after drop", 2, x::order);
        due("add after drop", 11, () -> x.add(CYCLE));
        due("order()", 120, x::order);
        PermGroup one = group(1, new int[12]);
        due("add(0) as the thirteenth with one point", -2, () -> one.add(0));
    }

    private static void addTellsNoPermutationFirst() {
        sentence = "-1 if p is no permutation; else -2 if there are 12";
        for (int n = 1; n <= 7; n++) {
            int[] twelve = new int[12];
            Arrays.fill(twelve, cycle(n));
            for (int p : wrongPermutations(n)) {
                PermGroup x = group(n, twelve);
                due("add(" + p + ") with " + n + " points and 12 generators", -1, () -> x.add(p));
            }
            PermGroup x = group(n, twelve);
            due("add of a permutation with 12 generators", -2, () -> x.add(identity(x.degree())));
        }
    }

    private static void dropTakesTheLastOne() {
        sentence = "The generator added last is one no more";
        PermGroup x = stairs(12);
        for (int left = 11; left >= 0; left--) {
            int last = left;
            due("drop() with " + (left + 1), true, x::drop);
            due("generators()", left, x::generators);
            due("generator(" + left + ")", -1, () -> x.generator(last));
            due("generator(" + (left - 1) + ")", left == 0 ? -1 : STAIRS[left - 1], () -> x.generator(last - 1));
            due("order() with " + left, STAIR_ORDERS[left], x::order);
            due("even() with " + left, left == 0 ? 1 : STAIR_ORDERS[left] / 2, x::even);
        }
        for (int left = 0; left <= 11; left++) {
            int kept = left;
            due("all questions after drops down to " + left, seen(stairs(left)), () -> {
                PermGroup y = stairs(12);
                for (int k = 12; k > kept; k--) {
                    y.drop();
                }
                return seen(y);
            });
        }
        PermGroup other = stairs(12);
        other.drop();
        other.drop();
        due("add of another after drop", 10, () -> other.add(perm(0, 1, 2, 3, 4, 6, 5)));
        due("order() does not keep the dropped one", 144, other::order);
    }

    private static void dropRefusesWithoutGenerators() {
        sentence = "false if there is none";
        for (int n = 1; n <= 7; n++) {
            PermGroup x = group(n, cycle(n));
            due("drop() of the only one", true, x::drop);
            due("drop() without generators", false, x::drop);
            due("drop() without generators again", false, x::drop);
            due("generators()", 0, x::generators);
            due("degree()", n, x::degree);
            due("add behind it", 0, () -> x.add(cycle(x.degree())));
            due("order()", n, x::order);
        }
        due("drop() of a new object", false, new PermGroup()::drop);
    }

    private static void generatorsFromNoneToTwelve() {
        sentence = "How many generators there are";
        for (int count = 0; count <= 12; count++) {
            due("generators() after " + count + " adds", count, stairs(count)::generators);
        }
        PermGroup x = stairs(12);
        x.add(cycle(7));
        due("generators() after a thirteenth add", 12, x::generators);
        x.add(-1);
        due("generators() after a wrong add", 12, x::generators);
        PermGroup none = new PermGroup();
        none.drop();
        due("generators() after a refused drop", 0, none::generators);
        none.add(LEAST_INT);
        due("generators() after a wrong add", 0, none::generators);
    }

    private static void generatorAtBothEnds() {
        sentence = "Generator k; -1 if there is none";
        for (int count = 0; count <= 12; count++) {
            PermGroup x = stairs(count);
            for (int k = 0; k < count; k++) {
                int number = k;
                due("generator(" + k + ") of " + count, STAIRS[k], () -> x.generator(number));
            }
            for (int k : new int[] {-1, -12, count, count + 1, 12, 13, LEAST_INT, LEAST_INT + 1, LARGEST_INT}) {
                due("generator(" + k + ") of " + count, -1, () -> x.generator(k));
            }
        }
        PermGroup one = group(1, 0);
        due("generator(0), the int 0", 0, () -> one.generator(0));
        due("generator(1) with one point", -1, () -> one.generator(1));
        PermGroup dropped = stairs(12);
        dropped.drop();
        due("generator(10) after drop", STAIRS[10], () -> dropped.generator(10));
        due("generator(11) after drop", -1, () -> dropped.generator(11));
    }

    private static void productRefusesEither() {
        sentence = "-1 if one of them is no permutation";
        for (int n = 1; n <= 7; n++) {
            int right = cycle(n);
            for (int p : wrongPermutations(n)) {
                PermGroup x = group(n);
                due("product(" + p + ", " + right + ")", -1, () -> x.product(p, right));
                due("product(" + right + ", " + p + ")", -1, () -> x.product(right, p));
                due("product(" + p + ", " + p + ")", -1, () -> x.product(p, p));
            }
            PermGroup x = group(n);
            due("product of two permutations that are no elements", identity(n),
                () -> x.product(right, x.inverse(right)));
        }
        PermGroup x = new PermGroup();
        for (int p : new int[] {LEAST_INT, LARGEST_INT}) {
            for (int q : new int[] {LEAST_INT, LARGEST_INT}) {
                due("product(" + p + ", " + q + ")", -1, () -> x.product(p, q));
            }
        }
    }

    private static void productFirstThenSecond() {
        sentence = "(first p, then q)";
        PermGroup two = group(2);
        due("product of the swap with itself", perm(0, 1), () -> two.product(perm(1, 0), perm(1, 0)));
        PermGroup one = group(1);
        due("product(0, 0) with one point", 0, () -> one.product(0, 0));
        PermGroup seven = group(7);
        due("first the cycle, then the swap", perm(0, 2, 3, 4, 5, 6, 1), () -> seven.product(cycle(7), swap(7)));
        due("first the swap, then the cycle", perm(2, 1, 3, 4, 5, 6, 0), () -> seven.product(swap(7), cycle(7)));
        PermGroup twelve = stairs(12);
        due("the same with 12 generators", perm(0, 2, 3, 4, 5, 6, 1), () -> twelve.product(cycle(7), swap(7)));
    }

    private static void inverseAtBothEnds() {
        sentence = "The inverse of p; -1 if it is no permutation";
        PermGroup one = group(1);
        due("inverse(0) with one point", 0, () -> one.inverse(0));
        PermGroup two = group(2);
        due("inverse of the swap of two points", perm(1, 0), () -> two.inverse(perm(1, 0)));
        PermGroup seven = group(7);
        due("inverse of the cycle of seven", perm(6, 0, 1, 2, 3, 4, 5), () -> seven.inverse(cycle(7)));
        due("inverse of 1 2 0 4 5 6 3", perm(2, 0, 1, 6, 3, 4, 5), () -> seven.inverse(perm(1, 2, 0, 4, 5, 6, 3)));
        for (int n = 1; n <= 7; n++) {
            for (int p : wrongPermutations(n)) {
                PermGroup x = group(n);
                due("inverse(" + p + ") with " + n + " points", -1, () -> x.inverse(p));
            }
        }
    }

    private static void orderFromOneToAll() {
        sentence = "How many elements the group has";
        for (int n = 1; n <= 7; n++) {
            due("order() without generators on " + n + " points", 1, group(n)::order);
            due("order() with the identity alone on " + n + " points", 1, group(n, identity(n))::order);
            due("order() of all on " + n + " points", factorial(n), all(n)::order);
            due("order() of a cycle of " + n + " points", n, group(n, cycle(n))::order);
        }
        for (int count = 0; count <= 12; count++) {
            due("order() with " + count + " generators", STAIR_ORDERS[count], stairs(count)::order);
        }
        due("order() with 12 times the identity", 1, group(1, new int[12])::order);
    }

    private static void containsAtBothEnds() {
        sentence = "Whether p is an element of the group";
        for (int n = 1; n <= 7; n++) {
            for (int p : wrongPermutations(n)) {
                for (PermGroup x : List.of(group(n), all(n))) {
                    due("contains(" + p + ") with " + n + " points", false, () -> x.contains(p));
                }
            }
        }
        for (int count = 0; count <= 12; count++) {
            PermGroup x = stairs(count);
            for (int k = 0; k < count; k++) {
                int p = STAIRS[k];
                due("contains its generator " + k + " of " + count, true, () -> x.contains(p));
            }
            due("contains the last stair with " + count, count == 12, () -> x.contains(STAIRS[11]));
            due("contains the last permutation with " + count, count == 12, () -> x.contains(reversed(7)));
        }
    }

    private static void elementAtBothEnds() {
        sentence = "The k-th element of the group (0 the first). IndexOutOfBoundsException if there is none";
        for (int n = 1; n <= 7; n++) {
            PermGroup x = all(n);
            int last = factorial(n) - 1;
            due("element(0) of all on " + n + " points", identity(n), () -> x.element(0));
            due("element(" + last + ") of all on " + n + " points", reversed(n), () -> x.element(last));
            due("element(" + (last + 1) + ") of all on " + n + " points", NO_INDEX, () -> x.element(last + 1));
        }
        for (int count = 0; count <= 12; count++) {
            PermGroup x = stairs(count);
            int order = STAIR_ORDERS[count];
            due("element(0) with " + count, identity(7), () -> x.element(0));
            due("rank of the last with " + count, order - 1, () -> x.rank(x.element(order - 1)));
            int[] none = {-1, order, order + 1, 5040, 1 << 16, LEAST_INT, LEAST_INT + 1, LARGEST_INT, LARGEST_INT - 1};
            for (int k : none) {
                due("element(" + k + ") with " + count, NO_INDEX, () -> x.element(k));
            }
        }
        // Twice two swaps: 0 1 apart from 5 6, so that the last element has both.
        PermGroup four = group(7, STAIRS[0], STAIRS[4]);
        due("element(1) of four", perm(0, 1, 2, 3, 4, 6, 5), () -> four.element(1));
        due("element(2) of four", perm(1, 0, 2, 3, 4, 5, 6), () -> four.element(2));
        due("element(3) of four", perm(1, 0, 2, 3, 4, 6, 5), () -> four.element(3));
        due("element(4) of four", NO_INDEX, () -> four.element(4));
    }

    private static void rankAtBothEnds() {
        sentence = "How many elements of the group come before its element p";
        for (int n = 1; n <= 7; n++) {
            PermGroup x = all(n);
            int points = n;
            due("rank of the first of all on " + n + " points", 0, () -> x.rank(identity(points)));
            due("rank of the last of all on " + n + " points", factorial(n) - 1, () -> x.rank(reversed(points)));
            PermGroup rotations = group(n, cycle(n));
            due("rank of the cycle on " + n + " points", n == 1 ? 0 : 1, () -> rotations.rank(cycle(points)));
            due("rank of its inverse, the last one", n - 1, () -> rotations.rank(rotations.inverse(cycle(points))));
        }
        PermGroup eleven = stairs(11);
        due("rank of the last one with 11", 143, () -> eleven.rank(perm(2, 1, 0, 6, 5, 4, 3)));
        due("rank of the first with the image 1", 48, () -> eleven.rank(perm(1, 0, 2, 3, 4, 5, 6)));
        due("rank of the last with the image 0", 47, () -> eleven.rank(perm(0, 2, 1, 6, 5, 4, 3)));
        PermGroup twelve = stairs(12);
        due("rank of the last one with 12", 5039, () -> twelve.rank(reversed(7)));
    }

    private static void rankTellsNoPermutationFirst() {
        sentence = "IllegalArgumentException if p is no permutation; else NoSuchElementException if it is no element";
        for (int n = 1; n <= 7; n++) {
            for (int p : wrongPermutations(n)) {
                for (PermGroup x : List.of(group(n), all(n))) {
                    due("rank(" + p + ") with " + n + " points", NO_PERMUTATION, () -> x.rank(p));
                }
            }
        }
        PermGroup eleven = stairs(11);
        PermGroup none = group(7);
        PermGroup dropped = stairs(12);
        dropped.drop();
        for (int p : new int[] {STAIRS[11], cycle(7), reversed(7)}) {
            due("rank(" + p + ") with 11 generators", NO_ELEMENT, () -> eleven.rank(p));
            due("rank(" + p + ") without generators", NO_ELEMENT, () -> none.rank(p));
            due("rank(" + p + ") when the twelfth was dropped", NO_ELEMENT, () -> dropped.rank(p));
        }
        PermGroup two = group(2);
        due("rank of the swap of two points without generators", NO_ELEMENT, () -> two.rank(perm(1, 0)));
    }

    private static void leastAtBothEnds() {
        sentence = "The first one, in the order of permutations, of the products of an element of the group and p";
        for (int n = 1; n <= 7; n++) {
            int points = n;
            PermGroup none = group(n);
            PermGroup all = all(n);
            for (int p : new int[] {identity(n), reversed(n), cycle(n), swap(n)}) {
                due("least(" + p + ") without generators", p, () -> none.least(p));
                due("least(" + p + ") with all", identity(points), () -> all.least(p));
            }
        }
        PermGroup eleven = stairs(11);
        // The elements put the images of 0, 1, 2 in any order, and those of 3, 4, 5, 6.
        due("least(6 5 4 3 2 1 0)", perm(4, 5, 6, 0, 1, 2, 3), () -> eleven.least(reversed(7)));
        due("least(1 2 3 4 5 6 0)", perm(1, 2, 3, 0, 4, 5, 6), () -> eleven.least(cycle(7)));
        due("least of an element", identity(7), () -> eleven.least(perm(2, 1, 0, 6, 5, 4, 3)));
        sentence = "least: IllegalArgumentException if p is no permutation";
        for (int n = 1; n <= 7; n++) {
            for (int p : wrongPermutations(n)) {
                for (PermGroup x : List.of(group(n), all(n))) {
                    due("least(" + p + ") with " + n + " points", NO_PERMUTATION, () -> x.least(p));
                }
            }
        }
    }

    private static void orbitAtBothEnds() {
        sentence = "The orbit of point x; 0 if there is no such point";
        for (int n = 1; n <= 7; n++) {
            PermGroup none = group(n);
            PermGroup all = all(n);
            for (int point = 0; point < n; point++) {
                int asked = point;
                due("orbit(" + point + ") without generators on " + n, 1 << point, () -> none.orbit(asked));
                due("orbit(" + point + ") with all on " + n, (1 << n) - 1, () -> all.orbit(asked));
            }
            // Beyond 31 a shift begins again at 0, and a point 32 or -32 would be taken for 0.
            for (int point : new int[] {-1, -32, n, n + 1, 7, 8, 31, 32, 33, 64, LEAST_INT, LEAST_INT + 1,
                LARGEST_INT, LARGEST_INT - 31}) {
                due("orbit(" + point + ") without generators on " + n, 0, () -> none.orbit(point));
                due("orbit(" + point + ") with all on " + n, 0, () -> all.orbit(point));
            }
        }
        PermGroup eleven = stairs(11);
        int[] orbits = {7, 7, 7, 120, 120, 120, 120};
        for (int point = 0; point < 7; point++) {
            int asked = point;
            due("orbit(" + point + ") with 11 generators", orbits[point], () -> eleven.orbit(asked));
        }
        PermGroup twelve = stairs(12);
        due("orbit(6) with 12 generators", 127, () -> twelve.orbit(6));
        twelve.drop();
        due("orbit(6) after drop", 120, () -> twelve.orbit(6));
    }

    private static void fixingAtBothEnds() {
        sentence = "(k from 0 to n; all do for k = 0); 0 if k is another number";
        for (int n = 1; n <= 7; n++) {
            PermGroup none = group(n);
            PermGroup all = all(n);
            for (int k = 0; k <= n; k++) {
                int first = k;
                due("fixing(" + k + ") without generators on " + n, 1, () -> none.fixing(first));
                due("fixing(" + k + ") with all on " + n, factorial(n - k), () -> all.fixing(first));
            }
            for (int k : new int[] {-1, n + 1, n + 2, 8, 32, LEAST_INT, LEAST_INT + 1, LARGEST_INT}) {
                due("fixing(" + k + ") without generators on " + n, 0, () -> none.fixing(k));
                due("fixing(" + k + ") with all on " + n, 0, () -> all.fixing(k));
            }
        }
        PermGroup eleven = stairs(11);
        int[] numbers = {144, 48, 24, 24, 6, 2, 1, 1, 0};
        for (int k = 0; k <= 8; k++) {
            int first = k;
            due("fixing(" + k + ") with 11 generators", numbers[k], () -> eleven.fixing(first));
        }
        for (int count = 0; count <= 12; count++) {
            PermGroup x = stairs(count);
            due("fixing(0) with " + count + " generators", STAIR_ORDERS[count], () -> x.fixing(0));
            due("fixing(7) with " + count + " generators", 1, () -> x.fixing(7));
        }
    }

    private static void evenAtBothEnds() {
        sentence = "in how many the number of pairs of points i below j, with the image of i above that of j, is even";
        for (int n = 1; n <= 7; n++) {
            due("even() without generators on " + n + " points", 1, group(n)::even);
            due("even() with the identity on " + n + " points", 1, group(n, identity(n))::even);
            due("even() of all on " + n + " points", n == 1 ? 1 : factorial(n) / 2, all(n)::even);
            due("even() of a cycle of " + n + " points", n % 2 == 1 ? n : n / 2, group(n, cycle(n))::even);
        }
        for (int count = 0; count <= 12; count++) {
            due("even() with " + count, count == 0 ? 1 : STAIR_ORDERS[count] / 2, stairs(count)::even);
        }
        int[] lastOdd = new int[12];
        Arrays.fill(lastOdd, SAME);
        lastOdd[11] = SWAP;
        PermGroup x = group(5, lastOdd);
        due("even() when the twelfth alone is odd", 1, x::even);
        due("order() when the twelfth alone is odd", 2, x::order);
        x.drop();
        due("even() when it is dropped", 1, x::even);
        PermGroup rotation = group(7, perm(1, 2, 0, 3, 4, 5, 6));
        due("even() of even ones alone", 3, rotation::even);
        // A swap of the points 0 and 6 has eleven such pairs.
        PermGroup far = group(7, perm(6, 1, 2, 3, 4, 5, 0));
        due("even() of the swap of the outer points", 1, far::even);
        PermGroup both = group(7, perm(1, 0, 2, 3, 4, 6, 5));
        due("even() of two swaps at once", 2, both::even);
    }
}
