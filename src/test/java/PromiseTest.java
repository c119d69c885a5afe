import java.util.function.Supplier;

/** Each promise of the document by answers worked out by hand: ordinary inputs, edges, wrong inputs. */
public final class PromiseTest {
    private static final int[] WRONG_FOR_FIVE = {
        -1, Integer.MIN_VALUE, Integer.MAX_VALUE, 0, 1,
        perm(0, 1, 2, 3, 3),            // an image twice
        perm(0, 1, 2, 3, 5),            // an image that is no point
        perm(0, 1, 2, 3, 7),
        perm(0, 1, 2, 3),               // too few points: point 4 gets the image 0
        perm(0, 1, 2, 3, 4, 5),         // too many points
        perm(0, 1, 2, 3, 4) | 1 << 15,  // each other bit must be 0
        perm(0, 1, 2, 3, 4) | 1 << 21,
        perm(0, 1, 2, 3, 4) | 1 << 31,
        perm(1, 2, 3, 4, 0) | 1 << 15,
        perm(1, 2, 3, 4, 0) | 1 << 31,
    };
    private static final int SWAP = perm(1, 0, 2, 3, 4);
    private static final int CYCLE = perm(1, 2, 3, 4, 0);
    private static final int ROTATE_THREE = perm(1, 2, 0, 3, 4);
    private static final int SAME = perm(0, 1, 2, 3, 4);

    private static int promise = 0;
    private static int calls = 0;
    private static int wrong = 0;

    public static void main(String[] args) {
        newObject();
        points();
        degree();
        add();
        drop();
        generators();
        generator();
        product();
        inverse();
        order();
        contains();
        element();
        rank();
        least();
        orbit();
        fixing();
        even();
        System.out.println(wrong == 0 ? calls + " answers are as due" : wrong + " answers are not as due");
        if (wrong != 0) {
            System.exit(1);
        }
    }

    private static int perm(int... images) {
        int p = 0;
        for (int i = 0; i < images.length; i++) {
            p |= images[i] << 3 * i;
        }
        return p;
    }

    private static PermGroup group(int points, int... generators) {
        PermGroup x = new PermGroup();
        x.points(points);
        for (int p : generators) {
            x.add(p);
        }
        return x;
    }

    private static void due(String call, Object want, Supplier<Object> got) {
        calls++;
        Object answer;
        try {
            answer = got.get();
        } catch (RuntimeException e) {
            answer = "throws " + e.getClass().getName();
        }
        if (!want.equals(answer)) {
            wrong++;
            System.out.println("promise " + promise + ": " + call + " answered " + answer + ", due is " + want);
        }
    }

    private static void newObject() {
        promise = 1;
        PermGroup x = new PermGroup();
        due("degree()", 5, x::degree);
        due("generators()", 0, x::generators);
        due("order()", 1, x::order);
        due("even()", 1, x::even);
        due("element(0)", SAME, () -> x.element(0));
        due("drop()", false, x::drop);
        PermGroup other = new PermGroup();
        x.add(CYCLE);
        due("order() of another object", 1, other::order);
    }

    private static void points() {
        promise = 2;
        for (int n = 1; n <= 7; n++) {
            int points = n;
            PermGroup x = group(5, CYCLE, SWAP);
            due("points(" + n + ")", true, () -> x.points(points));
            due("degree()", n, x::degree);
            due("generators()", 0, x::generators);
            due("order()", 1, x::order);
            int same = perm(0, 1, 2, 3, 4, 5, 6) & (1 << 3 * n) - 1;
            due("contains the identity", true, () -> x.contains(same));
        }
        PermGroup x = group(5, CYCLE, SWAP);
        for (int n : new int[] {0, 8, -1, -5, 12, Integer.MIN_VALUE, Integer.MAX_VALUE}) {
            due("points(" + n + ")", false, () -> x.points(n));
            due("degree()", 5, x::degree);
            due("generators()", 2, x::generators);
            due("order()", 120, x::order);
        }
        due("points(5)", true, () -> x.points(5));
        due("generators() after points with the same n", 0, x::generators);
        due("order() after points with the same n", 1, x::order);
    }

    private static void degree() {
        promise = 3;
        PermGroup x = group(7);
        due("degree()", 7, x::degree);
        x.points(1);
        due("degree()", 1, x::degree);
        x.points(0);
        due("degree()", 1, x::degree);
    }

    private static void add() {
        promise = 4;
        PermGroup x = new PermGroup();
        for (int p : WRONG_FOR_FIVE) {
            due("add(" + p + ")", -1, () -> x.add(p));
        }
        due("generators()", 0, x::generators);
        for (int k = 0; k < 12; k++) {
            int number = k;
            due("add, generator " + k, number, () -> x.add(number % 2 == 0 ? SWAP : SAME));
        }
        due("add of a thirteenth", -2, () -> x.add(CYCLE));
        due("add of no permutation when there are 12", -1, () -> x.add(0));
        due("generators()", 12, x::generators);
        due("order()", 2, x::order);
        due("generator(11)", SAME, () -> x.generator(11));
        x.drop();
        due("add after drop", 11, () -> x.add(CYCLE));
        due("order()", 120, x::order);
        PermGroup one = group(1);
        due("add(0) with one point", 0, () -> one.add(0));
        due("add(1) with one point", -1, () -> one.add(1));
        PermGroup seven = group(7);
        due("add with seven points", 0, () -> seven.add(perm(6, 5, 4, 3, 2, 1, 0)));
        due("add with an image 7", -1, () -> seven.add(perm(0, 1, 2, 3, 4, 5, 7)));
    }

    private static void drop() {
        promise = 5;
        PermGroup x = group(5, SWAP, ROTATE_THREE, CYCLE);
        due("order()", 120, x::order);
        due("drop()", true, x::drop);
        due("order()", 6, x::order);
        due("generators()", 2, x::generators);
        due("generator(2)", -1, () -> x.generator(2));
        due("drop()", true, x::drop);
        due("order()", 2, x::order);
        due("contains(SWAP)", true, () -> x.contains(SWAP));
        due("drop()", true, x::drop);
        due("order()", 1, x::order);
        due("drop()", false, x::drop);
        due("generators()", 0, x::generators);
        PermGroup twice = group(5, SWAP, SWAP);
        due("drop() of one of two equal ones", true, twice::drop);
        due("order()", 2, twice::order);
    }

    private static void generators() {
        promise = 6;
        PermGroup x = group(5, SWAP, SWAP, SAME);
        due("generators() with equal ones", 3, x::generators);
        x.drop();
        due("generators()", 2, x::generators);
        x.add(-1);
        due("generators()", 2, x::generators);
    }

    private static void generator() {
        promise = 7;
        PermGroup x = group(5, CYCLE, SWAP, CYCLE);
        due("generator(0)", CYCLE, () -> x.generator(0));
        due("generator(1)", SWAP, () -> x.generator(1));
        due("generator(2)", CYCLE, () -> x.generator(2));
        for (int k : new int[] {3, 12, 13, -1, Integer.MIN_VALUE, Integer.MAX_VALUE}) {
            due("generator(" + k + ")", -1, () -> x.generator(k));
        }
        x.drop();
        due("generator(2) after drop", -1, () -> x.generator(2));
        x.points(5);
        due("generator(0) after points", -1, () -> x.generator(0));
        PermGroup one = group(1, 0);
        due("generator(0) that is the int 0", 0, () -> one.generator(0));
    }

    private static void product() {
        promise = 8;
        PermGroup x = new PermGroup();
        due("first swap, then cycle", perm(2, 1, 3, 4, 0), () -> x.product(SWAP, CYCLE));
        due("first cycle, then swap", perm(0, 2, 3, 4, 1), () -> x.product(CYCLE, SWAP));
        due("product with the identity", CYCLE, () -> x.product(SAME, CYCLE));
        for (int p : WRONG_FOR_FIVE) {
            due("product(" + p + ", SWAP)", -1, () -> x.product(p, SWAP));
            due("product(SWAP, " + p + ")", -1, () -> x.product(SWAP, p));
            due("product of it with itself", -1, () -> x.product(p, p));
        }
        PermGroup one = group(1);
        due("product(0, 0) with one point", 0, () -> one.product(0, 0));
    }

    private static void inverse() {
        promise = 9;
        PermGroup x = new PermGroup();
        due("inverse(CYCLE)", perm(4, 0, 1, 2, 3), () -> x.inverse(CYCLE));
        due("inverse(SWAP)", SWAP, () -> x.inverse(SWAP));
        due("inverse(SAME)", SAME, () -> x.inverse(SAME));
        for (int p : WRONG_FOR_FIVE) {
            due("inverse(" + p + ")", -1, () -> x.inverse(p));
        }
        PermGroup seven = group(7);
        due("inverse with seven points", perm(6, 0, 1, 2, 3, 4, 5), () -> seven.inverse(perm(1, 2, 3, 4, 5, 6, 0)));
    }

    private static void order() {
        promise = 10;
        due("order() of all on 7 points", 5040, group(7, perm(1, 2, 3, 4, 5, 6, 0), perm(1, 0, 2, 3, 4, 5, 6))::order);
        due("order() of the even ones on 7 points", 2520,
            group(7, perm(1, 2, 3, 4, 5, 6, 0), perm(1, 2, 0, 3, 4, 5, 6))::order);
        due("order() of the plane of seven points", 168,
            group(7, perm(1, 2, 3, 4, 5, 6, 0), perm(0, 2, 1, 6, 4, 5, 3))::order);
        due("order() of one element of order 12", 12, group(7, perm(1, 2, 0, 4, 5, 6, 3))::order);
        due("order() with the identity alone", 1, group(5, SAME, SAME)::order);
        due("order() on 2 points", 2, group(2, perm(1, 0))::order);
        PermGroup x = group(5, perm(1, 0, 2, 3, 4), perm(0, 1, 3, 2, 4));
        due("order()", 4, x::order);
        due("order() again", 4, x::order);
    }

    private static void contains() {
        promise = 11;
        PermGroup x = group(5, CYCLE);
        due("contains(SAME)", true, () -> x.contains(SAME));
        due("contains(CYCLE)", true, () -> x.contains(CYCLE));
        due("contains its square", true, () -> x.contains(perm(2, 3, 4, 0, 1)));
        due("contains its inverse", true, () -> x.contains(perm(4, 0, 1, 2, 3)));
        due("contains(SWAP)", false, () -> x.contains(SWAP));
        due("contains one with the first image of an element", false, () -> x.contains(perm(1, 0, 3, 4, 2)));
        PermGroup all = group(5, CYCLE, SWAP);
        for (int p : WRONG_FOR_FIVE) {
            due("contains(" + p + ")", false, () -> x.contains(p));
            due("contains(" + p + ") with all", false, () -> all.contains(p));
        }
    }

    private static void element() {
        promise = 12;
        PermGroup x = group(5, CYCLE);
        int[] inOrder = {SAME, CYCLE, perm(2, 3, 4, 0, 1), perm(3, 4, 0, 1, 2), perm(4, 0, 1, 2, 3)};
        for (int k = 0; k < 5; k++) {
            int number = k;
            due("element(" + k + ")", inOrder[k], () -> x.element(number));
        }
        for (int k : new int[] {5, 120, -1, Integer.MIN_VALUE, Integer.MAX_VALUE}) {
            due("element(" + k + ")", "throws java.lang.IndexOutOfBoundsException", () -> x.element(k));
        }
        PermGroup three = group(3, perm(1, 2, 0), perm(1, 0, 2));
        due("element(3) of all on 3 points, not the order of ints", perm(1, 2, 0), () -> three.element(3));
        due("element(4) of all on 3 points", perm(2, 0, 1), () -> three.element(4));
        PermGroup one = group(1);
        due("element(0) with one point", 0, () -> one.element(0));
        due("element(1) with one point", "throws java.lang.IndexOutOfBoundsException", () -> one.element(1));
    }

    private static void rank() {
        promise = 13;
        PermGroup x = group(5, CYCLE);
        due("rank(SAME)", 0, () -> x.rank(SAME));
        due("rank(CYCLE)", 1, () -> x.rank(CYCLE));
        due("rank of its inverse", 4, () -> x.rank(perm(4, 0, 1, 2, 3)));
        due("rank(SWAP)", "throws java.util.NoSuchElementException", () -> x.rank(SWAP));
        for (int p : WRONG_FOR_FIVE) {
            due("rank(" + p + ")", "throws java.lang.IllegalArgumentException", () -> x.rank(p));
        }
        PermGroup all = group(7, perm(1, 2, 3, 4, 5, 6, 0), perm(1, 0, 2, 3, 4, 5, 6));
        due("rank of the last of all", 5039, () -> all.rank(perm(6, 5, 4, 3, 2, 1, 0)));
        due("rank of the first with image 1", 720, () -> all.rank(perm(1, 0, 2, 3, 4, 5, 6)));
    }

    private static void least() {
        promise = 14;
        PermGroup x = group(3, perm(1, 0, 2));
        // The products of 0 1 2 and 1 0 2 with 2 0 1 are 2 0 1 and 0 2 1; the other way round 1 2 0 would be met.
        due("least(2 0 1)", perm(0, 2, 1), () -> x.least(perm(2, 0, 1)));
        due("least(2 1 0)", perm(1, 2, 0), () -> x.least(perm(2, 1, 0)));
        due("least of an element", perm(0, 1, 2), () -> x.least(perm(1, 0, 2)));
        PermGroup none = new PermGroup();
        due("least without generators", CYCLE, () -> none.least(CYCLE));
        PermGroup all = group(5, CYCLE, SWAP);
        due("least with all", SAME, () -> all.least(perm(4, 2, 3, 0, 1)));
        for (int p : WRONG_FOR_FIVE) {
            due("least(" + p + ")", "throws java.lang.IllegalArgumentException", () -> all.least(p));
        }
    }

    private static void orbit() {
        promise = 15;
        PermGroup x = group(7, perm(3, 1, 2, 5, 4, 0, 6), perm(0, 2, 1, 3, 4, 5, 6));
        int[] orbits = {41, 6, 6, 41, 16, 41, 64};
        for (int p = 0; p < 7; p++) {
            int point = p;
            due("orbit(" + p + ")", orbits[p], () -> x.orbit(point));
        }
        for (int p : new int[] {7, 8, 32, -1, Integer.MIN_VALUE, Integer.MAX_VALUE}) {
            due("orbit(" + p + ")", 0, () -> x.orbit(p));
        }
        PermGroup chain = group(7, perm(0, 1, 2, 3, 4, 6, 5), perm(0, 1, 2, 3, 5, 4, 6), perm(0, 1, 2, 4, 3, 5, 6),
            perm(0, 1, 3, 2, 4, 5, 6), perm(0, 2, 1, 3, 4, 5, 6), perm(1, 0, 2, 3, 4, 5, 6));
        due("orbit(0) by six steps", 127, () -> chain.orbit(0));
        due("orbit(6) by six steps", 127, () -> chain.orbit(6));
        PermGroup none = group(4);
        due("orbit(3) without generators", 8, () -> none.orbit(3));
        due("orbit(4) with four points", 0, () -> none.orbit(4));
    }

    private static void fixing() {
        promise = 16;
        PermGroup x = group(5, CYCLE, SWAP);
        int[] numbers = {120, 24, 6, 2, 1, 1};
        for (int k = 0; k <= 5; k++) {
            int first = k;
            due("fixing(" + k + ")", numbers[k], () -> x.fixing(first));
        }
        for (int k : new int[] {6, 7, 8, -1, Integer.MIN_VALUE, Integer.MAX_VALUE}) {
            due("fixing(" + k + ")", 0, () -> x.fixing(k));
        }
        PermGroup upper = group(5, perm(0, 1, 2, 4, 3));
        due("fixing(3) with the upper points swapped", 2, () -> upper.fixing(3));
        due("fixing(4) with the upper points swapped", 1, () -> upper.fixing(4));
    }

    private static void even() {
        promise = 17;
        due("even() of all on 7 points", 2520, group(7, perm(1, 2, 3, 4, 5, 6, 0), perm(1, 0, 2, 3, 4, 5, 6))::even);
        due("even() of even ones", 3, group(5, ROTATE_THREE)::even);
        due("even() of a swap", 1, group(5, SWAP)::even);
        due("even() when only the last generator is odd", 3, group(5, ROTATE_THREE, SWAP)::even);
        due("even() when only the first generator is odd", 3, group(5, SWAP, ROTATE_THREE)::even);
        due("even() of a cycle of four points", 2, group(5, perm(1, 2, 3, 0, 4))::even);
        due("even() without generators", 1, group(7)::even);
        PermGroup x = group(5, ROTATE_THREE, SWAP);
        x.drop();
        due("even() after the odd one is dropped", 3, x::even);
    }
}
