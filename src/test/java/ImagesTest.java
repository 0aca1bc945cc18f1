/** Promises 32 and 33: image, goBack. */
public final class ImagesTest {
    private static final int BAD = -1, NOT = -2, NULL = -11;

    public static void main(String[] args) {
        noSuchImage();
        nothingWasKept();
        allIsAsItWas();
        imagesAreTheirOwn();
        slotsGoOn();
        basesGoOn();
        Due.end();
    }

    private static void noSuchImage() {
        OrderMover x = new OrderMover();
        for (int i : new int[] {-1, 2, Integer.MIN_VALUE, Integer.MAX_VALUE}) {
            Due.due("image(" + i + ")", x.image(i), BAD);
            Due.due("goBack(" + i + ")", x.goBack(i), BAD);
        }
    }

    private static void nothingWasKept() {
        OrderMover x = new OrderMover();
        x.system(3, 1);
        Due.due("goBack(0)", x.goBack(0), NOT);
        Due.due("goBack(1)", x.goBack(1), NOT);
        Due.due("image(1)", x.image(1), 3);
        Due.due("goBack(0) still", x.goBack(0), NOT);
        Due.due("goBack(1)", x.goBack(1), 3);
        Due.due("goBack(1) once more", x.goBack(1), 3);
    }

    private static void allIsAsItWas() {
        OrderMover x = new OrderMover();
        x.field(11);
        x.system(3, 2);
        x.weights(5, 4);
        x.drift(99);
        int[] was = new int[9];
        for (int what = 0; what < 9; what++) {
            was[what] = x.count(what);
        }
        int[] coefficients = coefficientsOf(x);
        int tail = x.tail(0, 0, 0);
        Due.due("image", x.image(0), 6);
        x.field(2);
        x.system(1, 3);
        x.weights(1, 1);
        x.drift(7);
        x.base(0, 0);
        Due.due("goBack", x.goBack(0), 6);
        for (int what = 0; what < 9; what++) {
            Due.due("count(" + what + ")", x.count(what), was[what]);
        }
        int[] now = coefficientsOf(x);
        for (int k = 0; k < now.length; k++) {
            Due.due("coefficient " + k, now[k], coefficients[k]);
        }
        Due.due("the base too", x.tail(0, 0, 0), tail);
        Due.due("the weights too", x.weights(1, 1), 54);
    }

    private static int[] coefficientsOf(OrderMover x) {
        return new int[] {x.get(0, 0, 0), x.get(0, 1, 0), x.get(0, 2, 0), x.get(0, 0, 1), x.get(0, 1, 1),
            x.get(0, 0, 2), x.get(1, 0, 0), x.get(1, 1, 0), x.get(1, 0, 1)};
    }

    private static void imagesAreTheirOwn() {
        OrderMover x = new OrderMover();
        x.put(0, 0, 0, 1);
        x.image(0);
        x.put(0, 0, 0, 2);
        x.image(1);
        x.put(0, 0, 0, 3);
        x.goBack(0);
        Due.due("the first", x.get(0, 0, 0), 1);
        x.put(0, 0, 0, 4);
        x.goBack(1);
        Due.due("the second", x.get(0, 0, 0), 2);
        x.goBack(0);
        Due.due("the first is as it was kept", x.get(0, 0, 0), 1);
        x.put(0, 0, 0, 5);
        x.image(0);
        x.put(0, 0, 0, 6);
        x.goBack(0);
        Due.due("kept anew", x.get(0, 0, 0), 5);
    }

    private static void slotsGoOn() {
        OrderMover x = new OrderMover();
        x.field(3);
        x.image(0);
        x.field(7);
        x.poly(0);
        x.add(0, 6, 3, 0);
        x.add(0, 5, 2, 0);
        x.add(0, 1, 1, 0);
        x.goBack(0);
        Due.due("6 by 3 goes", x.size(0), 2);
        Due.due("5 left over by 3", x.term(0, 0, 0), 2);
        Due.due("at x x", x.term(0, 0, 1), 2);
        Due.due("1 stays", x.term(0, 1, 0), 1);
        Due.due("the empty stay empty", x.size(1), NULL);
    }

    private static void basesGoOn() {
        OrderMover x = new OrderMover();
        x.put(0, 0, 0, 2);
        x.image(0);
        x.keepBase(1, 0);
        x.system(3, 3);
        Due.due("not of this system", x.stands(1), 0);
        x.goBack(0);
        Due.due("of the one that is back", x.stands(1), 1);
    }
}
