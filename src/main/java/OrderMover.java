/**
 * Moves the ideal of two polynomials in two unknowns over a small field from one term order to
 * another, by walking the terms upwards. The answers are told in ../shared/DOC.md.
 */
public final class OrderMover {
    public static final int BAD = -1, NOT = -2, FULL = -3, NONE = -4, NULL = -11, CAST = -12, MUCH = -13;

    private static final int LEAST_FIELD = 2, MOST_FIELD = 97;
    private static final int MOST_POWER = 3, MOST_WEIGHT = 9, MOST_SEED = 999999;
    /** The most terms of a staircase, and so the longest vector and the most roots. */
    private static final int MOST_STAIRS = MOST_POWER * MOST_POWER;
    private static final int MOST_MEMBERS = MOST_STAIRS + 1;
    private static final int ORDERS = 5, SLOTS = 4, IMAGES = 2;
    /** A slot's polynomial holds so many terms; one that is being made may have twice as many. */
    private static final int MOST_TERMS = 8, MOST_TERMS_AT_WORK = 2 * MOST_TERMS;
    private static final int MOST_NUMBER = 2147483647;
    private static final int EMPTY = 0, POLYNOMIAL = 1, BASE = 2;

    private final Setting setting = new Setting();
    private final Setting[] images = new Setting[IMAGES];
    private final boolean[] imaged = new boolean[IMAGES];
    private final Slot[] slots = new Slot[SLOTS];
    private final Ideal ideal = new Ideal();
    /** The base of a kept order, made anew for each question whether a kept base stands. */
    private final Base spare = new Base();
    private final TermOrder asked = new TermOrder();
    private final Polynomial scratch = new Polynomial(MOST_TERMS_AT_WORK);
    private final int[] vector = new int[MOST_STAIRS];
    private final int[] sum = new int[MOST_STAIRS];
    private final int[] form = new int[MOST_STAIRS];

    public OrderMover() {
        for (int i = 0; i < IMAGES; i++) {
            images[i] = new Setting();
        }
        for (int s = 0; s < SLOTS; s++) {
            slots[s] = new Slot();
        }
    }

    // ---- field, system

    public int field(int p) {
        if (!isPrimeOfRange(p)) {
            return BAD;
        }
        int was = setting.p;
        setting.moveToField(p);
        moveSlotsToField();
        ideal.forget();
        return was;
    }

    public int system(int a, int b) {
        if (!isWithin(a, 1, MOST_POWER) || !isWithin(b, 1, MOST_POWER)) {
            return BAD;
        }
        setting.begin(a, b);
        ideal.forget();
        return setting.dimension();
    }

    public int put(int of, int i, int j, int c) {
        if (!setting.hasCoefficient(of, i, j) || !isNumber(c)) {
            return BAD;
        }
        int was = setting.coefficient(of, i, j);
        setting.change(of, i, j, c);
        ideal.forget();
        return was;
    }

    public int get(int of, int i, int j) {
        if (!setting.hasCoefficient(of, i, j)) {
            return BAD;
        }
        return setting.coefficient(of, i, j);
    }

    public int weights(int u, int v) {
        if (!isWithin(u, 1, MOST_WEIGHT) || !isWithin(v, 1, MOST_WEIGHT)) {
            return BAD;
        }
        int was = 10 * setting.u + setting.v;
        setting.u = u;
        setting.v = v;
        ideal.forget();
        return was;
    }

    public int drift(int seed) {
        if (!isWithin(seed, 1, MOST_SEED)) {
            return BAD;
        }
        setting.scatter(setting.scatter(seed, 0), 1);
        ideal.forget();
        return setting.dimension();
    }

    public int count(int what) {
        switch (what) {
            case 0:
                return setting.p;
            case 1:
                return setting.a;
            case 2:
                return setting.b;
            case 3:
                return setting.dimension();
            case 4:
                return setting.u;
            case 5:
                return setting.v;
            case 6:
                return asAnswer(currentIdeal().isPlain());
            case 7:
                return asAnswer(currentIdeal().isRadical());
            case 8:
                return currentIdeal().countRoots(setting);
            case 9:
                return countSlots(POLYNOMIAL);
            case 10:
                return countSlots(BASE);
            default:
                return BAD;
        }
    }

    // ---- bases

    public int base(int order, int what) {
        if (!isOrder(order)) {
            return BAD;
        }
        Base found = baseIn(order);
        switch (what) {
            case 0:
                return found.members.howMany;
            case 1:
                return found.members.greatestSum();
            case 2:
                return found.greatestStairSum();
            default:
                return BAD;
        }
    }

    public int member(int order, int k, int what) {
        if (!isOrder(order) || k < 0 || k >= baseIn(order).members.howMany) {
            return BAD;
        }
        Members members = baseIn(order).members;
        switch (what) {
            case 0:
                return members.xs[k];
            case 1:
                return members.ys[k];
            case 2:
                return members.countTerms(k);
            default:
                return BAD;
        }
    }

    public int tail(int order, int k, int s) {
        if (!isOrder(order) || !isStair(s) || k < 0 || k >= baseIn(order).members.howMany) {
            return BAD;
        }
        return baseIn(order).members.tails[k][s];
    }

    public int stair(int order, int s, int what) {
        if (!isOrder(order) || !isStair(s) || !isUnknown(what)) {
            return BAD;
        }
        Base found = baseIn(order);
        return what == 0 ? found.stairXs[s] : found.stairYs[s];
    }

    public int normal(int order, int i, int j, int s) {
        if (!isOrder(order) || i < 0 || j < 0 || !isStair(s)) {
            return BAD;
        }
        currentIdeal().vectorOfTerm(i, j, vector);
        baseIn(order).span.express(vector, form);
        return form[s];
    }

    public int table(int order, int v, int r, int s) {
        if (!isOrder(order) || !isUnknown(v) || !isStair(r) || !isStair(s)) {
            return BAD;
        }
        Base found = baseIn(order);
        ideal.quotient.multiply(v, found.vectors[r], vector);
        found.span.express(vector, form);
        return form[s];
    }

    public int place(int order, int i, int j) {
        if (!isOrder(order) || i < 0 || j < 0) {
            return BAD;
        }
        return baseIn(order).stairAt(i, j);
    }

    public int least(int v, int k) {
        if (!isUnknown(v) || k < -1) {
            return BAD;
        }
        Least found = currentIdeal().leasts[v];
        if (k > found.high) {
            return BAD;
        }
        return k == -1 ? found.high : found.numbers[k];
    }

    public int root(int k, int what) {
        if (k < 0 || !isUnknown(what)) {
            return BAD;
        }
        if (k >= currentIdeal().countRoots(setting)) {
            return NONE;
        }
        return what == 0 ? ideal.rootXs[k] : ideal.rootYs[k];
    }

    // ---- slots

    public int poly(int s) {
        if (!isSlot(s)) {
            return BAD;
        }
        int was = slots[s].holds;
        slots[s].polynomial.empty();
        slots[s].holds = POLYNOMIAL;
        return was;
    }

    public int keepBase(int s, int order) {
        if (!isSlot(s) || !isOrder(order)) {
            return BAD;
        }
        slots[s].hold(baseIn(order));
        return slots[s].members.howMany;
    }

    public int drop(int s) {
        if (!isSlot(s)) {
            return BAD;
        }
        int was = slots[s].holds;
        slots[s].holds = EMPTY;
        return was;
    }

    public int add(int s, int c, int i, int j) {
        if (!isSlot(s) || !isNumber(c) || i < 0 || j < 0) {
            return BAD;
        }
        int found = slots[s].findWanting(POLYNOMIAL);
        if (found != 0) {
            return found;
        }
        scratch.copyFrom(slots[s].polynomial);
        scratch.bring(c, i, j, setting.p);
        return settle(s);
    }

    public int term(int s, int k, int what) {
        if (!isSlot(s) || k < 0 || !isWithin(what, 0, 2)) {
            return BAD;
        }
        int found = slots[s].findWanting(POLYNOMIAL);
        if (found != 0) {
            return found;
        }
        Polynomial held = slots[s].polynomial;
        if (k >= held.howMany) {
            return NONE;
        }
        return what == 0 ? held.numbers[k] : what == 1 ? held.xs[k] : held.ys[k];
    }

    public int size(int s) {
        if (!isSlot(s)) {
            return BAD;
        }
        if (slots[s].holds == EMPTY) {
            return NULL;
        }
        return slots[s].holds == BASE ? slots[s].members.howMany : slots[s].polynomial.howMany;
    }

    public int times(int s, int i, int j) {
        if (!isSlot(s) || i < 0 || j < 0) {
            return BAD;
        }
        int found = slots[s].findWanting(POLYNOMIAL);
        if (found != 0) {
            return found;
        }
        Polynomial held = slots[s].polynomial;
        if (!held.canRise(i, j)) {
            return MUCH;
        }
        held.rise(i, j);
        return held.howMany;
    }

    public int plus(int s, int t, int c) {
        if (!isSlot(s) || !isSlot(t) || !isNumber(c)) {
            return BAD;
        }
        if (slots[s].holds == EMPTY || slots[t].holds == EMPTY) {
            return NULL;
        }
        if (slots[s].holds != POLYNOMIAL || slots[t].holds != POLYNOMIAL) {
            return CAST;
        }
        scratch.copyFrom(slots[s].polynomial);
        scratch.bringAll(slots[t].polynomial, c, setting.p);
        return settle(s);
    }

    public int degree(int s) {
        if (!isSlot(s)) {
            return BAD;
        }
        int found = slots[s].findWanting(POLYNOMIAL);
        if (found != 0) {
            return found;
        }
        Polynomial held = slots[s].polynomial;
        if (held.howMany == 0) {
            return NONE;
        }
        long greatest = held.greatestSum();
        return greatest > MOST_NUMBER ? MUCH : (int) greatest;
    }

    public int leads(int s, int order) {
        if (!isSlot(s) || !isOrder(order)) {
            return BAD;
        }
        int found = slots[s].findWanting(POLYNOMIAL);
        if (found != 0) {
            return found;
        }
        Polynomial held = slots[s].polynomial;
        if (held.howMany == 0) {
            return NONE;
        }
        asked.become(order, setting.u, setting.v);
        return held.canCompare(asked) ? held.greatestIn(asked) : MUCH;
    }

    public int reduce(int s, int order) {
        if (!isSlot(s) || !isOrder(order)) {
            return BAD;
        }
        int found = slots[s].findWanting(POLYNOMIAL);
        if (found != 0) {
            return found;
        }
        sumVectors(slots[s].polynomial);
        Base moved = baseIn(order);
        moved.span.express(sum, form);
        scratch.empty();
        for (int k = 0; k < moved.span.howMany; k++) {
            scratch.bring(form[k], moved.stairXs[k], moved.stairYs[k], setting.p);
        }
        return settle(s);
    }

    public int belongs(int s) {
        if (!isSlot(s)) {
            return BAD;
        }
        int found = slots[s].findWanting(POLYNOMIAL);
        if (found != 0) {
            return found;
        }
        sumVectors(slots[s].polynomial);
        return asAnswer(firstNotZero(sum) < 0);
    }

    public int stands(int s) {
        if (!isSlot(s)) {
            return BAD;
        }
        int found = slots[s].findWanting(BASE);
        if (found != 0) {
            return found;
        }
        TermOrder kept = slots[s].order;
        spare.walk(currentIdeal().quotient, kept.kind, kept.u, kept.v);
        return asAnswer(spare.members.isAs(slots[s].members));
    }

    public int kept(int s, int what) {
        if (!isSlot(s) || !isWithin(what, 0, 1)) {
            return BAD;
        }
        int found = slots[s].findWanting(BASE);
        if (found != 0) {
            return found;
        }
        TermOrder order = slots[s].order;
        return what == 0 ? order.kind : 10 * order.u + order.v;
    }

    // ---- images

    public int image(int i) {
        if (!isWithin(i, 0, IMAGES - 1)) {
            return BAD;
        }
        images[i].copyFrom(setting);
        imaged[i] = true;
        return setting.dimension();
    }

    public int goBack(int i) {
        if (!isWithin(i, 0, IMAGES - 1)) {
            return BAD;
        }
        if (!imaged[i]) {
            return NOT;
        }
        setting.copyFrom(images[i]);
        moveSlotsToField();
        ideal.forget();
        return setting.dimension();
    }

    // ---- what the calls share

    private Ideal currentIdeal() {
        ideal.bringUpToDate(setting);
        return ideal;
    }

    private Base baseIn(int order) {
        ideal.bringUpToDate(setting);
        return ideal.baseOf(order, setting);
    }

    private void moveSlotsToField() {
        for (int s = 0; s < SLOTS; s++) {
            slots[s].polynomial.moveToField(setting.p);
            slots[s].members.moveToField(setting.p);
        }
    }

    private int countSlots(int kind) {
        int found = 0;
        for (int s = 0; s < SLOTS; s++) {
            if (slots[s].holds == kind) {
                found++;
            }
        }
        return found;
    }

    /** What was made in the scratch goes into the slot, if there is room for it. */
    private int settle(int s) {
        if (scratch.howMany > MOST_TERMS) {
            return FULL;
        }
        slots[s].polynomial.copyFrom(scratch);
        return scratch.howMany;
    }

    private void sumVectors(Polynomial polynomial) {
        ideal.bringUpToDate(setting);
        clear(sum);
        for (int k = 0; k < polynomial.howMany; k++) {
            ideal.vectorOfTerm(polynomial.xs[k], polynomial.ys[k], vector);
            bringMultiple(sum, vector, polynomial.numbers[k], setting.p);
        }
    }

    private boolean isNumber(int c) {
        return isWithin(c, 0, setting.p - 1);
    }

    private boolean isStair(int s) {
        return isWithin(s, 0, setting.dimension() - 1);
    }

    private static boolean isOrder(int order) {
        return isWithin(order, 0, ORDERS - 1);
    }

    private static boolean isSlot(int s) {
        return isWithin(s, 0, SLOTS - 1);
    }

    private static boolean isUnknown(int v) {
        return isWithin(v, 0, 1);
    }

    private static boolean isWithin(int number, int low, int high) {
        return number >= low && number <= high;
    }

    private static int asAnswer(boolean so) {
        return so ? 1 : 0;
    }

    // ---- numbers of the field and vectors of them

    private static boolean isPrimeOfRange(int p) {
        if (!isWithin(p, LEAST_FIELD, MOST_FIELD)) {
            return false;
        }
        for (int d = 2; d * d <= p; d++) {
            if (p % d == 0) {
                return false;
            }
        }
        return true;
    }

    private static int leftOver(int number, int p) {
        if (p < LEAST_FIELD) {
            return 0;
        }
        int left = number % p;
        return left < 0 ? left + p : left;
    }

    /** 0, if there is none. */
    private static int inverse(int number, int p) {
        for (int k = 1; k < p; k++) {
            if (k * number % p == 1) {
                return k;
            }
        }
        return 0;
    }

    private static void clear(int[] numbers) {
        for (int k = 0; k < numbers.length; k++) {
            numbers[k] = 0;
        }
    }

    private static int firstNotZero(int[] numbers) {
        for (int k = 0; k < numbers.length; k++) {
            if (numbers[k] != 0) {
                return k;
            }
        }
        return -1;
    }

    private static int highestNotZero(int[] numbers, int from) {
        for (int k = Math.min(from, numbers.length - 1); k >= 0; k--) {
            if (numbers[k] != 0) {
                return k;
            }
        }
        return -1;
    }

    private static void bringMultiple(int[] into, int[] row, int factor, int p) {
        if (p < LEAST_FIELD) {
            return;
        }
        for (int k = 0; k < into.length && k < row.length; k++) {
            into[k] = (into[k] + factor * row[k]) % p;
        }
    }

    /** What an image keeps: the field, the system, the weights. */
    private static final class Setting {
        int p = 7;
        int a = 2;
        int b = 2;
        int u = 1;
        int v = 2;
        /** The coefficients of F and of G, the one of i, j at MOST_POWER * j + i. */
        final int[] first = new int[MOST_STAIRS];
        final int[] second = new int[MOST_STAIRS];

        int dimension() {
            return a * b;
        }

        int power(int of) {
            return of == 0 ? a : b;
        }

        int[] coefficients(int of) {
            return of == 0 ? first : second;
        }

        boolean hasCoefficient(int of, int i, int j) {
            return isUnknown(of) && i >= 0 && j >= 0 && i < power(of) && j < power(of) - i;
        }

        int coefficient(int of, int i, int j) {
            return hasCoefficient(of, i, j) ? coefficients(of)[MOST_POWER * j + i] : 0;
        }

        void change(int of, int i, int j, int c) {
            if (hasCoefficient(of, i, j)) {
                coefficients(of)[MOST_POWER * j + i] = c;
            }
        }

        void begin(int powerOfX, int powerOfY) {
            a = powerOfX;
            b = powerOfY;
            clear(first);
            clear(second);
        }

        void moveToField(int other) {
            p = other;
            for (int k = 0; k < MOST_STAIRS; k++) {
                first[k] = leftOver(first[k], p);
                second[k] = leftOver(second[k], p);
            }
        }

        /** The last number drawn, from which the next polynomial goes on. */
        int scatter(int seed, int of) {
            long drawn = seed;
            for (int j = 0; j < power(of); j++) {
                for (int i = 0; i < power(of) - j; i++) {
                    drawn = drawn * 16807L % 2147483647L;
                    change(of, i, j, leftOver((int) drawn, p));
                }
            }
            return (int) drawn;
        }

        boolean isZeroAt(int of, int x, int y) {
            int[] coefficients = coefficients(of);
            int power = power(of);
            int value = 1;
            for (int k = 0; k < power; k++) {
                value = leftOver(value * (of == 0 ? x : y), p);
            }
            int powerOfY = 1;
            for (int j = 0; j < power; j++) {
                int both = powerOfY;
                for (int i = 0; i < power - j; i++) {
                    value = leftOver(value + coefficients[MOST_POWER * j + i] * both, p);
                    both = leftOver(both * x, p);
                }
                powerOfY = leftOver(powerOfY * y, p);
            }
            return value == 0;
        }

        void copyFrom(Setting other) {
            p = other.p;
            a = other.a;
            b = other.b;
            u = other.u;
            v = other.v;
            for (int k = 0; k < MOST_STAIRS; k++) {
                first[k] = other.first[k];
                second[k] = other.second[k];
            }
        }
    }

    /**
     * The polynomials, those that are alike taken for one: vectors over the terms with i less than A
     * and j less than B, which are the staircase by degree, since F and G begin with x and y alone.
     */
    private static final class Quotient {
        /** x or y times the highest of those terms has at most degree 5. */
        private static final int SIDE = 2 * MOST_POWER;

        int p;
        private int width;
        private int height;
        private final int[][] forms = new int[SIDE * SIDE][MOST_STAIRS];
        private final int[] moved = new int[MOST_STAIRS];

        /** By rising degree, since F and G send a term to terms of lesser degree. */
        void build(Setting setting) {
            p = setting.p;
            width = setting.a;
            height = setting.b;
            for (int d = 0; d < width + height; d++) {
                for (int i = 0; i <= d; i++) {
                    fillForm(setting, i, d - i);
                }
            }
        }

        private void fillForm(Setting setting, int i, int j) {
            int[] form = formAt(i, j);
            clear(form);
            if (i >= width) {
                bringTail(setting, 0, i - width, j, form);
            } else if (j >= height) {
                bringTail(setting, 1, i, j - height, form);
            } else {
                form[width * j + i] = 1;
            }
        }

        private void bringTail(Setting setting, int of, int i, int j, int[] form) {
            int[] coefficients = setting.coefficients(of);
            int power = setting.power(of);
            for (int l = 0; l < power; l++) {
                for (int k = 0; k < power - l; k++) {
                    int factor = leftOver(-coefficients[MOST_POWER * l + k], p);
                    bringMultiple(form, formAt(i + k, j + l), factor, p);
                }
            }
        }

        private int[] formAt(int i, int j) {
            boolean inside = i >= 0 && i < SIDE && j >= 0 && j < SIDE;
            return inside ? forms[SIDE * j + i] : forms[0];
        }

        void toOne(int[] into) {
            clear(into);
            into[0] = 1;
        }

        /** x (v = 0) or y (v = 1) times what the vector stands for. */
        void multiply(int v, int[] from, int[] into) {
            clear(moved);
            for (int j = 0; j < height; j++) {
                for (int i = 0; i < width; i++) {
                    int much = from[width * j + i];
                    if (much != 0) {
                        bringMultiple(moved, v == 0 ? formAt(i + 1, j) : formAt(i, j + 1), much, p);
                    }
                }
            }
            for (int k = 0; k < MOST_STAIRS; k++) {
                into[k] = moved[k];
            }
        }

        /** The polynomial in x or y whose numbers are given, times what start stands for. */
        void multiplyByPolynomial(int v, int[] numbers, int[] start, int[] into) {
            clear(into);
            for (int k = highestNotZero(numbers, numbers.length - 1); k >= 0; k--) {
                multiply(v, into, into);
                bringMultiple(into, start, numbers[k], p);
            }
        }
    }

    /** An order of terms; the weights tell in order 4 alone, but are kept with each. */
    private static final class TermOrder {
        int kind;
        int u = 1;
        int v = 1;

        void become(int order, int weightOfX, int weightOfY) {
            kind = order;
            u = weightOfX;
            v = weightOfY;
        }

        /** What is compared ahead of the letters; orders 0 and 1 have nothing there. */
        long weight(int i, int j) {
            switch (kind) {
                case 2:
                case 3:
                    return (long) i + j;
                case 4:
                    return (long) u * i + (long) v * j;
                default:
                    return 0;
            }
        }

        boolean isLess(int i, int j, int k, int l) {
            long one = weight(i, j);
            long other = weight(k, l);
            if (one != other) {
                return one < other;
            }
            boolean yFirst = kind == 1 || kind == 3;
            if (yFirst) {
                return j != l ? j < l : i < k;
            }
            return i != k ? i < k : j < l;
        }
    }

    /** The terms that are x or y times a step of the staircase: the next one to walk to is of them. */
    private static final class Border {
        private static final int MOST = 2 * MOST_STAIRS + 1;

        int howMany;
        final int[] xs = new int[MOST];
        final int[] ys = new int[MOST];
        /** The stair below, and the unknown that leads up from it; -1 below the term 1. */
        final int[] below = new int[MOST];
        final int[] unknowns = new int[MOST];
        private final boolean[] passed = new boolean[MOST];

        void begin() {
            howMany = 0;
            bring(0, 0, -1, 0);
        }

        void bring(int i, int j, int stair, int unknown) {
            if (howMany >= MOST || has(i, j)) {
                return;
            }
            xs[howMany] = i;
            ys[howMany] = j;
            below[howMany] = stair;
            unknowns[howMany] = unknown;
            passed[howMany] = false;
            howMany++;
        }

        private boolean has(int i, int j) {
            for (int k = 0; k < howMany; k++) {
                if (xs[k] == i && ys[k] == j) {
                    return true;
                }
            }
            return false;
        }

        /** The place of the least that was not passed, which then is; -1: all were. */
        int passLeast(TermOrder order) {
            int found = -1;
            for (int k = 0; k < howMany; k++) {
                if (!passed[k] && (found < 0 || order.isLess(xs[k], ys[k], xs[found], ys[found]))) {
                    found = k;
                }
            }
            if (found >= 0) {
                passed[found] = true;
            }
            return found;
        }
    }

    /** What the stairs walked so far make together: rows in steps, each with its share of every stair. */
    private static final class Span {
        int howMany;
        private int p;
        private final int[][] rows = new int[MOST_STAIRS][MOST_STAIRS];
        private final int[][] shares = new int[MOST_STAIRS][MOST_STAIRS];
        private final int[] pivots = new int[MOST_STAIRS];

        void begin(int field) {
            howMany = 0;
            p = field;
        }

        /** Takes out of the vector what the stairs make; share tells how much of each stair that was. */
        void express(int[] vector, int[] share) {
            clear(share);
            for (int r = 0; r < howMany; r++) {
                int much = vector[pivots[r]];
                if (much != 0) {
                    bringMultiple(vector, rows[r], p - much, p);
                    bringMultiple(share, shares[r], much, p);
                }
            }
        }

        /** A new stair, of which express() left the rest and took the share. */
        void absorb(int[] rest, int[] share) {
            int pivot = firstNotZero(rest);
            if (pivot < 0 || howMany >= MOST_STAIRS) {
                return;
            }
            int scale = inverse(rest[pivot], p);
            clear(rows[howMany]);
            bringMultiple(rows[howMany], rest, scale, p);
            clear(shares[howMany]);
            bringMultiple(shares[howMany], share, p - scale, p);
            shares[howMany][howMany] = scale;
            pivots[howMany] = pivot;
            howMany++;
        }
    }

    /** The members of a base: what leads each, and its numbers for the stairs. */
    private static final class Members {
        int howMany;
        final int[] xs = new int[MOST_MEMBERS];
        final int[] ys = new int[MOST_MEMBERS];
        final int[][] tails = new int[MOST_MEMBERS][MOST_STAIRS];

        /** The member whose leading term has this normal form. */
        void bring(int i, int j, int[] form, int p) {
            if (howMany >= MOST_MEMBERS) {
                return;
            }
            xs[howMany] = i;
            ys[howMany] = j;
            clear(tails[howMany]);
            bringMultiple(tails[howMany], form, p - 1, p);
            howMany++;
        }

        boolean leadTo(int i, int j) {
            for (int k = 0; k < howMany; k++) {
                if (xs[k] <= i && ys[k] <= j) {
                    return true;
                }
            }
            return false;
        }

        int greatestSum() {
            int greatest = 0;
            for (int k = 0; k < howMany; k++) {
                greatest = Math.max(greatest, xs[k] + ys[k]);
            }
            return greatest;
        }

        int countTerms(int k) {
            int found = 1;
            for (int s = 0; s < MOST_STAIRS; s++) {
                if (tails[k][s] != 0) {
                    found++;
                }
            }
            return found;
        }

        void moveToField(int p) {
            for (int k = 0; k < howMany; k++) {
                for (int s = 0; s < MOST_STAIRS; s++) {
                    tails[k][s] = leftOver(tails[k][s], p);
                }
            }
        }

        void copyFrom(Members other) {
            howMany = other.howMany;
            for (int k = 0; k < howMany; k++) {
                xs[k] = other.xs[k];
                ys[k] = other.ys[k];
                for (int s = 0; s < MOST_STAIRS; s++) {
                    tails[k][s] = other.tails[k][s];
                }
            }
        }

        /** Of one order: if the same terms lead, the stairs are the same too, and so numbered alike. */
        boolean isAs(Members other) {
            if (howMany != other.howMany) {
                return false;
            }
            for (int k = 0; k < howMany; k++) {
                if (xs[k] != other.xs[k] || ys[k] != other.ys[k] || !hasTail(k, other.tails[k])) {
                    return false;
                }
            }
            return true;
        }

        private boolean hasTail(int k, int[] tail) {
            for (int s = 0; s < MOST_STAIRS; s++) {
                if (tails[k][s] != tail[s]) {
                    return false;
                }
            }
            return true;
        }
    }

    /** The base in one order, had by walking the terms upwards. */
    private static final class Base {
        final TermOrder order = new TermOrder();
        final Members members = new Members();
        /** Has as many rows as the staircase has terms. */
        final Span span = new Span();
        final int[] stairXs = new int[MOST_STAIRS];
        final int[] stairYs = new int[MOST_STAIRS];
        final int[][] vectors = new int[MOST_STAIRS][MOST_STAIRS];
        private final Border border = new Border();
        private final int[] rest = new int[MOST_STAIRS];
        private final int[] share = new int[MOST_STAIRS];

        void walk(Quotient quotient, int kind, int u, int v) {
            order.become(kind, u, v);
            members.howMany = 0;
            span.begin(quotient.p);
            border.begin();
            for (int step = 0; step < Border.MOST; step++) {
                int next = border.passLeast(order);
                if (next < 0) {
                    return;
                }
                if (!members.leadTo(border.xs[next], border.ys[next])) {
                    visit(quotient, next);
                }
            }
        }

        private void visit(Quotient quotient, int next) {
            int i = border.xs[next];
            int j = border.ys[next];
            if (border.below[next] < 0) {
                quotient.toOne(rest);
            } else {
                quotient.multiply(border.unknowns[next], vectors[border.below[next]], rest);
            }
            int stair = span.howMany;
            if (stair < MOST_STAIRS) {
                clear(vectors[stair]);
                bringMultiple(vectors[stair], rest, 1, quotient.p);
            }
            span.express(rest, share);
            if (firstNotZero(rest) < 0) {
                members.bring(i, j, share, quotient.p);
            } else if (stair < MOST_STAIRS) {
                span.absorb(rest, share);
                stairXs[stair] = i;
                stairYs[stair] = j;
                border.bring(i + 1, j, stair, 0);
                border.bring(i, j + 1, stair, 1);
            }
        }

        int stairAt(int i, int j) {
            for (int s = 0; s < span.howMany; s++) {
                if (stairXs[s] == i && stairYs[s] == j) {
                    return s;
                }
            }
            return NONE;
        }

        int greatestStairSum() {
            int greatest = 0;
            for (int s = 0; s < span.howMany; s++) {
                greatest = Math.max(greatest, stairXs[s] + stairYs[s]);
            }
            return greatest;
        }
    }

    /** The least polynomial of one unknown. */
    private static final class Least {
        int high;
        final int[] numbers = new int[MOST_STAIRS + 1];
        /** What raise() found: the numbers of a power of the unknown, left over by the polynomial. */
        final int[] raised = new int[MOST_STAIRS];
        private int p;
        private final int[] square = new int[2 * MOST_STAIRS];
        private final int[] one = new int[MOST_STAIRS + 1];
        private final int[] other = new int[MOST_STAIRS + 1];

        /** Of a base whose first stairs are the powers of the unknown, up to what leads member 0. */
        void readFrom(Members members, int power, int field) {
            p = field;
            high = Math.min(power, MOST_STAIRS);
            for (int k = 0; k < high; k++) {
                numbers[k] = members.tails[0][k];
            }
            numbers[high] = 1;
        }

        boolean isZeroAt(int number) {
            int value = 0;
            for (int k = high; k >= 0; k--) {
                value = leftOver(value * number + numbers[k], p);
            }
            return value == 0;
        }

        void raise(int power) {
            clear(raised);
            raised[0] = 1;
            boolean begun = false;
            for (int bit = 30; bit >= 0; bit--) {
                if (begun) {
                    squareRaised();
                }
                if ((power >> bit & 1) == 1) {
                    begun = true;
                    shiftRaised();
                }
            }
        }

        private void squareRaised() {
            clear(square);
            for (int k = 0; k < high; k++) {
                for (int l = 0; l < high; l++) {
                    square[k + l] = leftOver(square[k + l] + raised[k] * raised[l], p);
                }
            }
            for (int k = 2 * high - 2; k >= high; k--) {
                for (int l = 0; l < high; l++) {
                    square[k - high + l] = leftOver(square[k - high + l] - square[k] * numbers[l], p);
                }
            }
            for (int k = 0; k < high; k++) {
                raised[k] = square[k];
            }
        }

        private void shiftRaised() {
            if (high < 1) {
                return;
            }
            int carried = raised[high - 1];
            for (int k = high - 1; k > 0; k--) {
                raised[k] = leftOver(raised[k - 1] - carried * numbers[k], p);
            }
            raised[0] = leftOver(-carried * numbers[0], p);
        }

        /** So, if it has no factor in common with its derivative. */
        boolean hasNoFactorTwice() {
            for (int k = 0; k <= high; k++) {
                one[k] = numbers[k];
                if (k > 0) {
                    other[k - 1] = leftOver(k * numbers[k], p);
                }
            }
            int[] greater = one;
            int[] lesser = other;
            int degreeOfGreater = high;
            for (int step = 0; step <= MOST_STAIRS; step++) {
                int degreeOfLesser = highestNotZero(lesser, degreeOfGreater - 1);
                if (degreeOfLesser < 0) {
                    return degreeOfGreater == 0;
                }
                divideOut(greater, degreeOfGreater, lesser, degreeOfLesser);
                int[] left = greater;
                greater = lesser;
                lesser = left;
                degreeOfGreater = degreeOfLesser;
            }
            return degreeOfGreater == 0;
        }

        /** Leaves in from what is left over by the other; top and low are their degrees. */
        private void divideOut(int[] from, int top, int[] by, int low) {
            int scale = inverse(by[low], p);
            for (int k = top; k >= low; k--) {
                int much = leftOver(from[k] * scale, p);
                for (int l = 0; l <= low; l++) {
                    from[k - low + l] = leftOver(from[k - low + l] - much * by[l], p);
                }
            }
        }
    }

    /** All that follows from the setting, found when it is asked for and kept until the setting changes. */
    private static final class Ideal {
        final Quotient quotient = new Quotient();
        final Least[] leasts = new Least[2];
        final int[] rootXs = new int[MOST_STAIRS];
        final int[] rootYs = new int[MOST_STAIRS];
        private final Base[] bases = new Base[ORDERS];
        private final boolean[] walked = new boolean[ORDERS];
        private boolean current;
        /** -1: not yet counted. */
        private int roots = -1;
        private final int[] partial = new int[MOST_STAIRS];

        Ideal() {
            for (int order = 0; order < ORDERS; order++) {
                bases[order] = new Base();
            }
            leasts[0] = new Least();
            leasts[1] = new Least();
        }

        void forget() {
            current = false;
        }

        /** The orders of letters come at once, since their first members are the least polynomials. */
        void bringUpToDate(Setting setting) {
            if (current) {
                return;
            }
            quotient.build(setting);
            for (int order = 0; order < ORDERS; order++) {
                walked[order] = order < 2;
            }
            bases[0].walk(quotient, 0, setting.u, setting.v);
            bases[1].walk(quotient, 1, setting.u, setting.v);
            leasts[0].readFrom(bases[1].members, bases[1].members.xs[0], setting.p);
            leasts[1].readFrom(bases[0].members, bases[0].members.ys[0], setting.p);
            roots = -1;
            current = true;
        }

        Base baseOf(int order, Setting setting) {
            if (!isOrder(order)) {
                return bases[0];
            }
            if (!walked[order]) {
                bases[order].walk(quotient, order, setting.u, setting.v);
                walked[order] = true;
            }
            return bases[order];
        }

        void vectorOfTerm(int i, int j, int[] into) {
            leasts[0].raise(i);
            leasts[1].raise(j);
            quotient.toOne(into);
            quotient.multiplyByPolynomial(0, leasts[0].raised, into, partial);
            quotient.multiplyByPolynomial(1, leasts[1].raised, partial, into);
        }

        boolean isPlain() {
            for (int s = 0; s < bases[0].span.howMany; s++) {
                if (bases[0].stairXs[s] != 0) {
                    return false;
                }
            }
            return bases[0].members.howMany == 2;
        }

        boolean isRadical() {
            return leasts[0].hasNoFactorTwice() && leasts[1].hasNoFactorTwice();
        }

        /** The least polynomials are 0 at every root, so few pairs are left to be looked at. */
        int countRoots(Setting setting) {
            if (roots >= 0) {
                return roots;
            }
            roots = 0;
            for (int x = 0; x < setting.p; x++) {
                if (leasts[0].isZeroAt(x)) {
                    findRootsAt(setting, x);
                }
            }
            return roots;
        }

        private void findRootsAt(Setting setting, int x) {
            for (int y = 0; y < setting.p; y++) {
                boolean found = leasts[1].isZeroAt(y) && setting.isZeroAt(0, x, y) && setting.isZeroAt(1, x, y);
                if (found && roots < MOST_STAIRS) {
                    rootXs[roots] = x;
                    rootYs[roots] = y;
                    roots++;
                }
            }
        }
    }

    /** Terms with numbers that are not 0, falling in order 0. */
    private static final class Polynomial {
        int howMany;
        final int[] numbers;
        final int[] xs;
        final int[] ys;

        Polynomial(int room) {
            int length = Math.max(room, 0);
            numbers = new int[length];
            xs = new int[length];
            ys = new int[length];
        }

        void empty() {
            howMany = 0;
        }

        void copyFrom(Polynomial other) {
            howMany = Math.min(other.howMany, numbers.length);
            for (int k = 0; k < howMany; k++) {
                numbers[k] = other.numbers[k];
                xs[k] = other.xs[k];
                ys[k] = other.ys[k];
            }
        }

        void bring(int c, int i, int j, int p) {
            int at = 0;
            while (at < howMany && (xs[at] > i || xs[at] == i && ys[at] > j)) {
                at++;
            }
            if (at < howMany && xs[at] == i && ys[at] == j) {
                numbers[at] = leftOver(numbers[at] + c, p);
                takeZerosAway();
            } else if (c != 0 && howMany < numbers.length) {
                insert(at, c, i, j);
            }
        }

        void bringAll(Polynomial other, int factor, int p) {
            for (int k = 0; k < other.howMany; k++) {
                bring(leftOver(other.numbers[k] * factor, p), other.xs[k], other.ys[k], p);
            }
        }

        private void insert(int at, int c, int i, int j) {
            for (int k = howMany; k > at; k--) {
                numbers[k] = numbers[k - 1];
                xs[k] = xs[k - 1];
                ys[k] = ys[k - 1];
            }
            numbers[at] = c;
            xs[at] = i;
            ys[at] = j;
            howMany++;
        }

        private void takeZerosAway() {
            int left = 0;
            for (int k = 0; k < howMany; k++) {
                if (numbers[k] != 0) {
                    numbers[left] = numbers[k];
                    xs[left] = xs[k];
                    ys[left] = ys[k];
                    left++;
                }
            }
            howMany = left;
        }

        void moveToField(int p) {
            for (int k = 0; k < howMany; k++) {
                numbers[k] = leftOver(numbers[k], p);
            }
            takeZerosAway();
        }

        boolean canRise(int i, int j) {
            for (int k = 0; k < howMany; k++) {
                if (xs[k] > MOST_NUMBER - i || ys[k] > MOST_NUMBER - j) {
                    return false;
                }
            }
            return true;
        }

        void rise(int i, int j) {
            for (int k = 0; k < howMany; k++) {
                xs[k] += i;
                ys[k] += j;
            }
        }

        long greatestSum() {
            long greatest = 0;
            for (int k = 0; k < howMany; k++) {
                greatest = Math.max(greatest, (long) xs[k] + ys[k]);
            }
            return greatest;
        }

        boolean canCompare(TermOrder order) {
            for (int k = 0; k < howMany; k++) {
                if (order.weight(xs[k], ys[k]) > MOST_NUMBER) {
                    return false;
                }
            }
            return true;
        }

        int greatestIn(TermOrder order) {
            int greatest = 0;
            for (int k = 1; k < howMany; k++) {
                if (order.isLess(xs[greatest], ys[greatest], xs[k], ys[k])) {
                    greatest = k;
                }
            }
            return greatest;
        }
    }

    /** Has room for either kind, so that no call makes an object. */
    private static final class Slot {
        int holds = EMPTY;
        final Polynomial polynomial = new Polynomial(MOST_TERMS);
        final TermOrder order = new TermOrder();
        final Members members = new Members();

        void hold(Base base) {
            order.become(base.order.kind, base.order.u, base.order.v);
            members.copyFrom(base.members);
            holds = BASE;
        }

        /** 0: it holds what is wanted. */
        int findWanting(int kind) {
            if (holds == EMPTY) {
                return NULL;
            }
            return holds == kind ? 0 : CAST;
        }
    }
}
