/** Promises 18 to 31: poly, keepBase, drop, add, term, size, times, plus, degree, leads, reduce, belongs, stands, kept. */
public final class SlotsTest {
    private static final int BAD = -1, FULL = -3, NONE = -4, NULL = -11, CAST = -12, MUCH = -13;
    private static final int LOWEST = Integer.MIN_VALUE, HIGHEST = Integer.MAX_VALUE;
    private static final int[] NO_SLOTS = {-1, 4, LOWEST, HIGHEST};
    private static final int[] NO_ORDERS = {-1, 5, LOWEST, HIGHEST};

    public static void main(String[] args) {
        kindsOfSlots();
        noSuchSlot();
        emptySlots();
        slotsOfTheOtherKind();
        addSorts();
        addCancels();
        addRefuses();
        addIsFull();
        whatWentIsForgotten();
        eightTerms();
        termRefuses();
        timesRises();
        plusSums();
        plusOfItself();
        plusIsFull();
        plusMayPassOverNine();
        plusRefuses();
        degreeOfPolynomial();
        leadsInOrders();
        leadsIsTooMuch();
        reduceToNormalForm();
        reduceIsFull();
        belongsToTheIdeal();
        standsWhileItIsTheBase();
        standsByItsOwnWeights();
        standsBehindMoreMembers();
        standsInAnotherField();
        keptStaysAsItWas();
        Due.end();
    }

    private static void polynomialIs(OrderMover x, int s, int... numberIJ) {
        int terms = numberIJ.length / 3;
        Due.due("size(" + s + ")", x.size(s), terms);
        for (int k = 0; k < terms; k++) {
            for (int what = 0; what < 3; what++) {
                Due.due("term(" + s + ", " + k + ", " + what + ")", x.term(s, k, what), numberIJ[3 * k + what]);
            }
        }
        Due.due("term beyond", x.term(s, terms, 0), NONE);
    }

    private static OrderMover withPolynomial(int... numberIJ) {
        OrderMover x = new OrderMover();
        x.poly(0);
        for (int k = 0; k < numberIJ.length; k += 3) {
            x.add(0, numberIJ[k], numberIJ[k + 1], numberIJ[k + 2]);
        }
        return x;
    }

    /** By 7: x x + y + 3 and y y + 2 x. */
    private static void fillSystem(OrderMover x) {
        x.put(0, 0, 1, 1);
        x.put(0, 0, 0, 3);
        x.put(1, 1, 0, 2);
    }

    private static void kindsOfSlots() {
        OrderMover x = new OrderMover();
        for (int s = 0; s < 4; s++) {
            Due.due("drop of nothing", x.drop(s), 0);
            Due.due("poly over nothing", x.poly(s), 0);
            Due.due("add", x.add(s, 1, s, 0), 1);
            Due.due("poly over a polynomial", x.poly(s), 1);
            Due.due("it has no terms", x.size(s), 0);
            Due.due("keepBase", x.keepBase(s, 0), 2);
            Due.due("size of a base", x.size(s), 2);
            Due.due("poly over a base", x.poly(s), 2);
            Due.due("it has no terms", x.size(s), 0);
            Due.due("drop of a polynomial", x.drop(s), 1);
            Due.due("it is empty", x.size(s), NULL);
            x.keepBase(s, 4);
            Due.due("drop of a base", x.drop(s), 2);
            Due.due("it is empty", x.drop(s), 0);
        }
        x.system(2, 3);
        x.put(1, 1, 1, 1);
        Due.due("three members", x.keepBase(3, 0), 3);
        Due.due("size of three members", x.size(3), 3);
        Due.due("two members", x.keepBase(3, 1), 2);
        Due.due("size of two members", x.size(3), 2);
    }

    private static void noSuchSlot() {
        OrderMover x = new OrderMover();
        for (int s : NO_SLOTS) {
            Due.due("poly", x.poly(s), BAD);
            Due.due("keepBase", x.keepBase(s, 0), BAD);
            Due.due("drop", x.drop(s), BAD);
            Due.due("add", x.add(s, 1, 0, 0), BAD);
            Due.due("term", x.term(s, 0, 0), BAD);
            Due.due("size", x.size(s), BAD);
            Due.due("times", x.times(s, 0, 0), BAD);
            Due.due("plus", x.plus(s, 0, 1), BAD);
            Due.due("plus", x.plus(0, s, 1), BAD);
            Due.due("degree", x.degree(s), BAD);
            Due.due("leads", x.leads(s, 0), BAD);
            Due.due("reduce", x.reduce(s, 0), BAD);
            Due.due("belongs", x.belongs(s), BAD);
            Due.due("stands", x.stands(s), BAD);
            Due.due("kept", x.kept(s, 0), BAD);
        }
        for (int order : NO_ORDERS) {
            Due.due("keepBase in no order", x.keepBase(0, order), BAD);
        }
        Due.due("nothing was kept", x.size(0), NULL);
    }

    /** What is wrong with the numbers comes ahead of what is wrong with the slot. */
    private static void refusedFirst(OrderMover x, int s) {
        Due.due("add of 7", x.add(s, 7, 0, 0), BAD);
        Due.due("add of -1", x.add(s, -1, 0, 0), BAD);
        Due.due("add at i -1", x.add(s, 1, -1, 0), BAD);
        Due.due("add at j -1", x.add(s, 1, 0, -1), BAD);
        Due.due("term -1", x.term(s, -1, 0), BAD);
        Due.due("term what 3", x.term(s, 0, 3), BAD);
        Due.due("term what -1", x.term(s, 0, -1), BAD);
        Due.due("times i -1", x.times(s, -1, 0), BAD);
        Due.due("times j -1", x.times(s, 0, -1), BAD);
        Due.due("plus of 7", x.plus(s, s, 7), BAD);
        Due.due("plus of -1", x.plus(s, s, -1), BAD);
        for (int order : NO_ORDERS) {
            Due.due("leads in no order", x.leads(s, order), BAD);
            Due.due("reduce in no order", x.reduce(s, order), BAD);
        }
        for (int what : new int[] {-1, 2, LOWEST, HIGHEST}) {
            Due.due("kept what " + what, x.kept(s, what), BAD);
        }
    }

    private static void emptySlots() {
        OrderMover x = new OrderMover();
        for (int s = 0; s < 4; s++) {
            refusedFirst(x, s);
            Due.due("add", x.add(s, 1, 0, 0), NULL);
            Due.due("term", x.term(s, 9, 0), NULL);
            Due.due("size", x.size(s), NULL);
            Due.due("times", x.times(s, HIGHEST, 0), NULL);
            Due.due("plus", x.plus(s, s, 1), NULL);
            Due.due("degree", x.degree(s), NULL);
            Due.due("leads", x.leads(s, 0), NULL);
            Due.due("reduce", x.reduce(s, 0), NULL);
            Due.due("belongs", x.belongs(s), NULL);
            Due.due("stands", x.stands(s), NULL);
            Due.due("kept", x.kept(s, 0), NULL);
        }
        Due.due("all are empty still", x.count(9) + x.count(10), 0);
    }

    private static void slotsOfTheOtherKind() {
        OrderMover x = new OrderMover();
        x.keepBase(2, 1);
        refusedFirst(x, 2);
        Due.due("add", x.add(2, 1, 0, 0), CAST);
        Due.due("term", x.term(2, 9, 0), CAST);
        Due.due("times", x.times(2, HIGHEST, 0), CAST);
        Due.due("plus", x.plus(2, 2, 0), CAST);
        Due.due("degree", x.degree(2), CAST);
        Due.due("leads", x.leads(2, 0), CAST);
        Due.due("reduce", x.reduce(2, 0), CAST);
        Due.due("belongs", x.belongs(2), CAST);
        Due.due("the base stands", x.stands(2), 1);
        x.poly(1);
        refusedFirst(x, 1);
        Due.due("stands", x.stands(1), CAST);
        Due.due("kept", x.kept(1, 0), CAST);
        Due.due("kept", x.kept(1, 1), CAST);
    }

    private static void addSorts() {
        OrderMover x = new OrderMover();
        x.poly(0);
        Due.due("add", x.add(0, 1, 2, 3), 1);
        Due.due("add", x.add(0, 2, 0, HIGHEST), 2);
        Due.due("add", x.add(0, 3, 2, 5), 3);
        Due.due("add", x.add(0, 4, HIGHEST, 0), 4);
        Due.due("add", x.add(0, 5, 2, 4), 5);
        Due.due("add", x.add(0, 6, 0, 0), 6);
        polynomialIs(x, 0, 4, HIGHEST, 0, 3, 2, 5, 5, 2, 4, 1, 2, 3, 2, 0, HIGHEST, 6, 0, 0);
    }

    private static void addCancels() {
        OrderMover x = withPolynomial(1, 2, 0, 3, 1, 1, 5, 0, 0);
        Due.due("sum left over by 7", x.add(0, 6, 1, 1), 3);
        polynomialIs(x, 0, 1, 2, 0, 2, 1, 1, 5, 0, 0);
        Due.due("sum of 0", x.add(0, 5, 1, 1), 2);
        polynomialIs(x, 0, 1, 2, 0, 5, 0, 0);
        Due.due("0 times a new term", x.add(0, 0, 9, 9), 2);
        Due.due("0 times an old term", x.add(0, 0, 2, 0), 2);
        polynomialIs(x, 0, 1, 2, 0, 5, 0, 0);
        x.add(0, 6, 2, 0);
        Due.due("all gone", x.add(0, 2, 0, 0), 0);
        polynomialIs(x, 0);
    }

    private static void addRefuses() {
        OrderMover x = withPolynomial(1, 2, 0);
        refusedFirst(x, 0);
        Due.due("add at lowest", x.add(0, 1, LOWEST, LOWEST), BAD);
        Due.due("add of highest", x.add(0, HIGHEST, 0, 0), BAD);
        x.field(3);
        Due.due("add of 3 by 3", x.add(0, 3, 0, 0), BAD);
        polynomialIs(x, 0, 1, 2, 0);
    }

    private static void addIsFull() {
        OrderMover x = withPolynomial(1, 0, 0, 1, 1, 0, 1, 2, 0, 1, 3, 0, 1, 4, 0, 1, 5, 0, 1, 6, 0, 1, 7, 0);
        Due.due("eight terms", x.size(0), 8);
        Due.due("a ninth below", x.add(0, 1, 0, 1), FULL);
        Due.due("a ninth above", x.add(0, 1, 8, 0), FULL);
        Due.due("wrong numbers come first", x.add(0, 7, 8, 0), BAD);
        Due.due("0 times a ninth", x.add(0, 0, 8, 0), 8);
        Due.due("one of the eight", x.add(0, 1, 3, 0), 8);
        Due.due("its number", x.term(0, 4, 0), 2);
        Due.due("one goes", x.add(0, 6, 7, 0), 7);
        Due.due("one comes", x.add(0, 3, 0, 1), 8);
        polynomialIs(x, 0, 1, 6, 0, 1, 5, 0, 1, 4, 0, 2, 3, 0, 1, 2, 0, 1, 1, 0, 3, 0, 1, 1, 0, 0);
    }

    private static void whatWentIsForgotten() {
        OrderMover x = withPolynomial(1, 1, 0, 1, 0, HIGHEST);
        x.add(0, 6, 0, HIGHEST);
        Due.due("degree", x.degree(0), 1);
        for (int order = 0; order < 5; order++) {
            Due.due("leads", x.leads(0, order), 0);
        }
        Due.due("times y", x.times(0, 0, 1), 1);
        polynomialIs(x, 0, 1, 1, 1);
    }

    private static void eightTerms() {
        OrderMover x = withPolynomial(1, 0, 8, 1, 1, 7, 1, 2, 6, 1, 3, 5, 1, 4, 4, 1, 5, 3, 1, 6, 2, 1, 7, 1);
        x.weights(1, 1);
        int[] want = {0, 7, 0, 7, 0};
        for (int order = 0; order < 5; order++) {
            Due.due("leads in order " + order, x.leads(0, order), want[order]);
        }
        Due.due("degree", x.degree(0), 8);
        Due.due("times", x.times(0, 1, 1), 8);
        Due.due("field", x.field(2), 7);
        Due.due("all stay", x.size(0), 8);
        Due.due("all are led", x.belongs(0), 1);
        Due.due("reduce", x.reduce(0, 2), 0);
    }

    private static void termRefuses() {
        OrderMover x = withPolynomial(5, 2, 3);
        Due.due("term k lowest", x.term(0, LOWEST, 0), BAD);
        Due.due("term k highest", x.term(0, HIGHEST, 0), NONE);
        Due.due("wrong what ahead of NONE", x.term(0, 1, 3), BAD);
        for (int what = 0; what < 3; what++) {
            Due.due("no second term", x.term(0, 1, what), NONE);
        }
    }

    private static void timesRises() {
        OrderMover x = withPolynomial(2, 3, 1, 4, 0, 5);
        Due.due("times 1", x.times(0, 0, 0), 2);
        Due.due("times x x y", x.times(0, 2, 1), 2);
        polynomialIs(x, 0, 2, 5, 2, 4, 2, 6);
        Due.due("i as high as can be", x.times(0, HIGHEST - 5, 0), 2);
        Due.due("i too high", x.times(0, 1, 0), MUCH);
        Due.due("j as high as can be", x.times(0, 0, HIGHEST - 6), 2);
        Due.due("j too high", x.times(0, 0, 1), MUCH);
        Due.due("both too high", x.times(0, HIGHEST, HIGHEST), MUCH);
        polynomialIs(x, 0, 2, HIGHEST, HIGHEST - 4, 4, HIGHEST - 3, HIGHEST);
        x.poly(0);
        Due.due("nothing rises as high as one likes", x.times(0, HIGHEST, HIGHEST), 0);
        Due.due("and again", x.times(0, HIGHEST, HIGHEST), 0);
    }

    private static void plusSums() {
        OrderMover x = withPolynomial(1, 2, 0, 3, 1, 1, 5, 0, 0);
        x.poly(1);
        x.add(1, 2, 3, 3);
        x.add(1, 2, 1, 1);
        x.add(1, 4, 0, 7);
        Due.due("plus 0 times", x.plus(0, 1, 0), 3);
        Due.due("plus 2 times", x.plus(0, 1, 2), 4);
        polynomialIs(x, 0, 4, 3, 3, 1, 2, 0, 1, 0, 7, 5, 0, 0);
        polynomialIs(x, 1, 2, 3, 3, 2, 1, 1, 4, 0, 7);
        Due.due("plus 6 times", x.plus(1, 0, 6), 5);
        polynomialIs(x, 1, 5, 3, 3, 6, 2, 0, 2, 1, 1, 3, 0, 7, 2, 0, 0);
    }

    private static void plusOfItself() {
        OrderMover x = withPolynomial(1, 2, 0, 3, 1, 1, 5, 0, 0);
        Due.due("plus itself", x.plus(0, 0, 1), 3);
        polynomialIs(x, 0, 2, 2, 0, 6, 1, 1, 3, 0, 0);
        Due.due("plus 0 times itself", x.plus(0, 0, 0), 3);
        Due.due("less itself", x.plus(0, 0, 6), 0);
        polynomialIs(x, 0);
        x.field(2);
        x.add(0, 1, 1, 0);
        Due.due("twice by 2", x.plus(0, 0, 1), 0);
    }

    private static void plusIsFull() {
        OrderMover x = withPolynomial(1, 0, 0, 1, 1, 0, 1, 2, 0, 1, 3, 0, 1, 4, 0, 1, 5, 0, 1, 6, 0, 1, 7, 0);
        x.poly(1);
        x.add(1, 1, 9, 0);
        Due.due("a ninth", x.plus(0, 1, 1), FULL);
        Due.due("0 times a ninth", x.plus(0, 1, 0), 8);
        x.add(1, 6, 0, 0);
        Due.due("one comes, one goes", x.plus(0, 1, 1), 8);
        polynomialIs(x, 0, 1, 9, 0, 1, 7, 0, 1, 6, 0, 1, 5, 0, 1, 4, 0, 1, 3, 0, 1, 2, 0, 1, 1, 0);
        x.poly(1);
        for (int j = 1; j <= 8; j++) {
            x.add(1, 2, 0, j);
        }
        Due.due("sixteen", x.plus(0, 1, 3), FULL);
        Due.due("as it was", x.size(0), 8);
        Due.due("as it was", x.term(0, 7, 2), 0);
    }

    /** The new terms come first, then as many of the old ones go. */
    private static void plusMayPassOverNine() {
        OrderMover x = withPolynomial(1, 0, 0, 1, 1, 0, 1, 2, 0, 1, 3, 0);
        x.poly(1);
        for (int i = 0; i < 4; i++) {
            x.add(0, 2, 4 + i, 0);
            x.add(1, 5, 4 + i, 0);
            x.add(1, 3, 10 + i, 0);
        }
        Due.due("twelve on the way", x.plus(0, 1, 1), 8);
        polynomialIs(x, 0, 3, 13, 0, 3, 12, 0, 3, 11, 0, 3, 10, 0, 1, 3, 0, 1, 2, 0, 1, 1, 0, 1, 0, 0);
    }

    private static void plusRefuses() {
        OrderMover x = withPolynomial(1, 0, 0);
        x.keepBase(1, 0);
        Due.due("into nothing", x.plus(2, 0, 1), NULL);
        Due.due("of nothing", x.plus(0, 2, 1), NULL);
        Due.due("a base and nothing", x.plus(1, 2, 1), NULL);
        Due.due("nothing and a base", x.plus(2, 1, 1), NULL);
        Due.due("into a base", x.plus(1, 0, 1), CAST);
        Due.due("of a base", x.plus(0, 1, 1), CAST);
        Due.due("0 times a base", x.plus(0, 1, 0), CAST);
        Due.due("7 times nothing", x.plus(0, 2, 7), BAD);
        polynomialIs(x, 0, 1, 0, 0);
    }

    private static void degreeOfPolynomial() {
        OrderMover x = withPolynomial(1, 3, 1, 2, 0, 5, 3, 1, 1);
        Due.due("the second is highest", x.degree(0), 5);
        x.poly(0);
        Due.due("no terms", x.degree(0), NONE);
        x.add(0, 4, 0, 0);
        Due.due("a number", x.degree(0), 0);
        x.add(0, 1, HIGHEST, 0);
        Due.due("as high as can be", x.degree(0), HIGHEST);
        x.add(0, 1, 1, HIGHEST);
        Due.due("too high", x.degree(0), MUCH);
        x.poly(0);
        x.add(0, 1, HIGHEST, HIGHEST);
        Due.due("far too high", x.degree(0), MUCH);
    }

    private static void leadsInOrders() {
        OrderMover x = withPolynomial(1, 3, 0, 1, 2, 2, 1, 1, 3, 1, 0, 3);
        int[] want = {0, 2, 1, 2, 2};
        for (int order = 0; order < 5; order++) {
            Due.due("leads in order " + order, x.leads(0, order), want[order]);
        }
        x.weights(2, 1);
        Due.due("6, 6, 5, 3: the greater i", x.leads(0, 4), 0);
        x.weights(1, 1);
        Due.due("3, 4, 4, 3: the greater i", x.leads(0, 4), 1);
        x.weights(9, 1);
        Due.due("27", x.leads(0, 4), 0);
        x.weights(1, 9);
        Due.due("28 above 27", x.leads(0, 4), 2);
        OrderMover y = withPolynomial(1, 4, 1, 1, 1, 4, 1, 0, 4);
        Due.due("j alike, the greater i", y.leads(0, 1), 1);
        x.poly(0);
        for (int order = 0; order < 5; order++) {
            Due.due("no terms", x.leads(0, order), NONE);
        }
    }

    private static void leadsIsTooMuch() {
        OrderMover x = withPolynomial(1, 1073741824, 1073741823, 1, 0, 0);
        Due.due("2147483647 is not", x.leads(0, 2), 0);
        Due.due("nor in order 3", x.leads(0, 3), 0);
        Due.due("by 1, 2 it is", x.leads(0, 4), MUCH);
        x.weights(1, 1);
        Due.due("by 1, 1 it is not", x.leads(0, 4), 0);
        x.times(0, 0, 1);
        Due.due("one more", x.leads(0, 2), MUCH);
        Due.due("one more", x.leads(0, 3), MUCH);
        Due.due("one more", x.leads(0, 4), MUCH);
        Due.due("letters are never", x.leads(0, 0), 0);
        Due.due("letters are never", x.leads(0, 1), 0);
        OrderMover y = withPolynomial(1, 238609294, 1, 1, 0, 0);
        y.weights(9, 1);
        Due.due("9 times 238609294 and 1", y.leads(0, 4), 0);
        y.times(0, 0, 1);
        Due.due("and 2", y.leads(0, 4), MUCH);
        OrderMover z = withPolynomial(1, 2, 0, 1, 0, HIGHEST);
        Due.due("a lesser term's counts too", z.leads(0, 4), MUCH);
        z.weights(1, 1);
        Due.due("as high as can be", z.leads(0, 4), 1);
    }

    private static void reduceToNormalForm() {
        OrderMover x = withPolynomial(1, 2, 0, 3, 0, 2);
        fillSystem(x);
        x.poly(1);
        x.plus(1, 0, 1);
        Due.due("by degree", x.reduce(1, 2), 3);
        polynomialIs(x, 1, 1, 1, 0, 6, 0, 1, 4, 0, 0);
        x.poly(1);
        x.plus(1, 0, 1);
        Due.due("by letters", x.reduce(1, 0), 3);
        polynomialIs(x, 1, 3, 0, 2, 6, 0, 1, 4, 0, 0);
        x.poly(1);
        x.plus(1, 0, 1);
        Due.due("by letters, y first", x.reduce(1, 1), 2);
        polynomialIs(x, 1, 1, 2, 0, 1, 1, 0);
        Due.due("again", x.reduce(1, 1), 2);
        polynomialIs(x, 1, 1, 2, 0, 1, 1, 0);
        x.poly(1);
        Due.due("nothing", x.reduce(1, 4), 0);
        x.add(1, 1, HIGHEST, 3);
        x.reduce(1, 0);
        for (int k = 0; k < x.size(1); k++) {
            int s = x.term(1, k, 2);
            Due.due("as normal() says", x.term(1, k, 0), x.normal(0, HIGHEST, 3, s));
        }
    }

    private static void reduceIsFull() {
        OrderMover x = new OrderMover();
        x.field(97);
        x.system(3, 3);
        x.drift(5);
        x.poly(0);
        x.add(0, 96, 1000, 1000);
        for (int order = 0; order < 5; order++) {
            int terms = 0;
            for (int s = 0; s < 9; s++) {
                terms += x.normal(order, 1000, 1000, s) == 0 ? 0 : 1;
            }
            int answer = x.reduce(0, order);
            Due.due("reduce in order " + order, answer, terms == 9 ? FULL : terms);
            if (answer == FULL) {
                polynomialIs(x, 0, 96, 1000, 1000);
            }
        }
        Due.due("is full", x.reduce(0, 0), FULL);
    }

    private static void belongsToTheIdeal() {
        OrderMover x = withPolynomial(1, 2, 0, 1, 0, 1, 3, 0, 0);
        Due.due("not of x x, y y", x.belongs(0), 0);
        fillSystem(x);
        Due.due("F", x.belongs(0), 1);
        x.times(0, 1000000007, 12345);
        Due.due("F times a term", x.belongs(0), 1);
        x.add(0, 1, 0, 2);
        Due.due("and y y", x.belongs(0), 0);
        x.add(0, 2, 1, 0);
        Due.due("and y y + 2 x", x.belongs(0), 1);
        x.add(0, 1, 0, 0);
        Due.due("and 1", x.belongs(0), 0);
        x.poly(0);
        Due.due("0", x.belongs(0), 1);
    }

    private static void standsWhileItIsTheBase() {
        OrderMover x = new OrderMover();
        fillSystem(x);
        for (int order = 0; order < 4; order++) {
            x.keepBase(order, order);
        }
        for (int s = 0; s < 4; s++) {
            Due.due("stands", x.stands(s), 1);
        }
        x.put(0, 0, 0, 4);
        for (int s = 0; s < 4; s++) {
            Due.due("another F", x.stands(s), 0);
        }
        x.put(0, 0, 0, 3);
        for (int s = 0; s < 4; s++) {
            Due.due("F again", x.stands(s), 1);
        }
        x.system(2, 1);
        for (int s = 0; s < 4; s++) {
            Due.due("another D", x.stands(s), 0);
        }
        x.system(2, 2);
        x.keepBase(0, 2);
        x.system(2, 3);
        Due.due("y y y for y y", x.stands(0), 0);
        x.put(1, 0, 2, 1);
        Due.due("y y y + y y", x.stands(0), 0);
    }

    private static void standsByItsOwnWeights() {
        OrderMover x = new OrderMover();
        fillSystem(x);
        x.weights(1, 3);
        x.keepBase(0, 4);
        x.weights(2, 1);
        x.keepBase(1, 4);
        Due.due("by 1, 3", x.stands(0), 1);
        Due.due("by 2, 1", x.stands(1), 1);
        Due.due("weights of the first", x.kept(0, 1), 13);
        Due.due("weights of the second", x.kept(1, 1), 21);
        Due.due("the order now is untouched", x.member(4, 0, 0), 1);
        x.put(1, 0, 0, 1);
        Due.due("another G", x.stands(0), 0);
        Due.due("another G", x.stands(1), 0);
    }

    private static void standsBehindMoreMembers() {
        OrderMover x = new OrderMover();
        x.system(2, 3);
        x.put(1, 1, 1, 1);
        Due.due("three", x.keepBase(0, 0), 3);
        x.system(2, 2);
        Due.due("two", x.keepBase(0, 0), 2);
        Due.due("stands", x.stands(0), 1);
        x.system(2, 3);
        x.put(1, 1, 1, 1);
        Due.due("the three do not", x.stands(0), 0);
        x.keepBase(1, 0);
        Due.due("but kept anew", x.stands(1), 1);
        x.system(2, 2);
        Due.due("nor the three now", x.stands(1), 0);
        Due.due("the two do", x.stands(0), 1);
    }

    /** By 7: x x + 6 and y y + 5, which by 5 are x x + 1 and y y. */
    private static void standsInAnotherField() {
        OrderMover x = new OrderMover();
        x.put(0, 0, 0, 6);
        x.put(1, 0, 0, 5);
        x.keepBase(0, 2);
        x.image(0);
        x.field(5);
        Due.due("left over by 5 too", x.stands(0), 1);
        x.field(7);
        Due.due("and so they stay", x.stands(0), 1);
        x.goBack(0);
        Due.due("but the system goes back", x.stands(0), 0);
    }

    private static void keptStaysAsItWas() {
        OrderMover x = new OrderMover();
        for (int order = 0; order < 5; order++) {
            x.weights(9 - order, 1 + order);
            x.keepBase(1, order);
            Due.due("order", x.kept(1, 0), order);
            Due.due("weights", x.kept(1, 1), 10 * (9 - order) + 1 + order);
        }
        x.weights(1, 1);
        x.system(3, 3);
        x.field(2);
        Due.due("order", x.kept(1, 0), 4);
        Due.due("weights", x.kept(1, 1), 55);
        Due.due("members", x.size(1), 2);
    }
}
