import java.util.Arrays;

/** Promises 9 to 17: base, member, tail, stair, normal, table, place, least, root. */
public final class BasesTest {
    private static final int BAD = -1, NONE = -4;
    private static final int LOWEST = Integer.MIN_VALUE, HIGHEST = Integer.MAX_VALUE;

    public static void main(String[] args) {
        plainShape();
        weightsDecide();
        threeMembers();
        fewerMembers();
        degreesTieByLetter();
        tailsOfDegreeAreReduced();
        membersCanBeBare();
        oneStair();
        highPowers();
        normalAgreesWithTable();
        leastPolynomials();
        rootsRise();
        wrongNumbers();
        Due.end();
    }

    /** By 7: x x + y + 3 and y y + 2 x. */
    private static OrderMover plain() {
        OrderMover x = new OrderMover();
        x.put(0, 0, 1, 1);
        x.put(0, 0, 0, 3);
        x.put(1, 1, 0, 2);
        return x;
    }

    /** By 7: x x and y y y + x y, where y to the 5 is 0. */
    private static OrderMover three() {
        OrderMover x = new OrderMover();
        x.system(2, 3);
        x.put(1, 1, 1, 1);
        return x;
    }

    private static String stairs(OrderMover x, int order) {
        StringBuilder all = new StringBuilder();
        for (int s = 0; s < x.count(3); s++) {
            all.append(s == 0 ? "" : " ").append(x.stair(order, s, 0)).append(x.stair(order, s, 1));
        }
        return all.toString();
    }

    private static void stairsAre(OrderMover x, int order, String want) {
        String got = stairs(x, order);
        Due.holds("stairs in order " + order + " are " + got + ", due are " + want, got.equals(want));
        String[] all = want.split(" ");
        for (int s = 0; s < all.length; s++) {
            int i = all[s].charAt(0) - '0';
            int j = all[s].charAt(1) - '0';
            Due.due("place of " + all[s] + " in order " + order, x.place(order, i, j), s);
        }
    }

    private static void memberIs(OrderMover x, int order, int k, int i, int j, int... tail) {
        String name = "order " + order + ", member " + k + ", ";
        Due.due(name + "i", x.member(order, k, 0), i);
        Due.due(name + "j", x.member(order, k, 1), j);
        Due.due(name + "terms", x.member(order, k, 2), 1 + Arrays.stream(tail).filter(n -> n != 0).count());
        for (int s = 0; s < tail.length; s++) {
            Due.due(name + "tail " + s, x.tail(order, k, s), tail[s]);
        }
        Due.due(name + "place", x.place(order, i, j), NONE);
        for (int s = 0; s < tail.length; s++) {
            Due.due(name + "normal " + s, x.normal(order, i, j, s), (7 - tail[s]) % 7);
        }
    }

    private static void baseIs(OrderMover x, int order, int members, int highest, int highestStair) {
        Due.due("base(" + order + ", 0)", x.base(order, 0), members);
        Due.due("base(" + order + ", 1)", x.base(order, 1), highest);
        Due.due("base(" + order + ", 2)", x.base(order, 2), highestStair);
    }

    private static void plainShape() {
        OrderMover x = plain();
        baseIs(x, 0, 2, 4, 3);
        stairsAre(x, 0, "00 01 02 03");
        memberIs(x, 0, 0, 0, 4, 5, 4, 0, 0);
        memberIs(x, 0, 1, 1, 0, 0, 0, 4, 0);
        baseIs(x, 1, 2, 4, 3);
        stairsAre(x, 1, "00 10 20 30");
        memberIs(x, 1, 0, 4, 0, 2, 2, 6, 0);
        memberIs(x, 1, 1, 0, 1, 3, 0, 1, 0);
        baseIs(x, 2, 2, 2, 2);
        stairsAre(x, 2, "00 01 10 11");
        memberIs(x, 2, 0, 0, 2, 0, 0, 2, 0);
        memberIs(x, 2, 1, 2, 0, 3, 1, 0, 0);
    }

    private static void weightsDecide() {
        OrderMover x = plain();
        stairsAre(x, 4, "00 10 01 11");
        memberIs(x, 4, 0, 2, 0, 3, 0, 1, 0);
        memberIs(x, 4, 1, 0, 2, 0, 2, 0, 0);
        x.weights(1, 3);
        stairsAre(x, 4, "00 10 20 30");
        memberIs(x, 4, 0, 0, 1, 3, 0, 1, 0);
        memberIs(x, 4, 1, 4, 0, 2, 2, 6, 0);
        x.weights(2, 1);
        stairsAre(x, 4, "00 01 02 03");
        memberIs(x, 4, 0, 1, 0, 0, 0, 4, 0);
        memberIs(x, 4, 1, 0, 4, 5, 4, 0, 0);
        x.weights(1, 1);
        stairsAre(x, 4, "00 01 10 11");
    }

    private static void threeMembers() {
        OrderMover x = three();
        baseIs(x, 0, 3, 5, 4);
        stairsAre(x, 0, "00 01 02 03 04 10");
        memberIs(x, 0, 0, 0, 5, 0, 0, 0, 0, 0, 0);
        memberIs(x, 0, 1, 1, 1, 0, 0, 0, 1, 0, 0);
        memberIs(x, 0, 2, 2, 0, 0, 0, 0, 0, 0, 0);
        baseIs(x, 1, 2, 3, 3);
        stairsAre(x, 1, "00 10 01 11 02 12");
        memberIs(x, 1, 0, 2, 0, 0, 0, 0, 0, 0, 0);
        memberIs(x, 1, 1, 0, 3, 0, 0, 0, 1, 0, 0);
        Due.due("three members are not plain", x.count(6), 0);
        Due.due("x y = - y y y", x.table(0, 0, 1, 3), 6);
        Due.due("y x = - y y y", x.table(0, 1, 5, 3), 6);
        Due.due("y y y y y = 0", x.table(0, 1, 4, 0), 0);
        Due.due("y y = y times y", x.table(0, 1, 1, 2), 1);
        Due.due("x y y = - y y y y", x.normal(0, 1, 2, 4), 6);
        Due.due("beyond the stairs", x.place(0, 1, 1), NONE);
        Due.due("far beyond the stairs", x.place(0, HIGHEST, HIGHEST), NONE);
        Due.due("a high power is 0", x.normal(0, 0, HIGHEST, 0), 0);
    }

    /** What a greater base left behind does not count. */
    private static void fewerMembers() {
        OrderMover x = three();
        baseIs(x, 0, 3, 5, 4);
        x.system(1, 1);
        baseIs(x, 0, 2, 1, 0);
        Due.due("the third is gone", x.member(0, 2, 0), BAD);
        Due.due("no stair either", x.place(0, 1, 0), NONE);
    }

    private static void degreesTieByLetter() {
        OrderMover x = new OrderMover();
        x.system(3, 3);
        stairsAre(x, 2, "00 01 10 02 11 20 12 21 22");
        stairsAre(x, 3, "00 10 01 20 11 02 21 12 22");
        stairsAre(x, 0, "00 01 02 10 11 12 20 21 22");
        stairsAre(x, 1, "00 10 20 01 11 21 02 12 22");
        stairsAre(x, 4, "00 10 01 20 11 02 21 12 22");
        x.weights(2, 1);
        stairsAre(x, 4, "00 01 02 10 11 12 20 21 22");
    }

    /** By 7: x x x + y y and y + 3, so that y leads the y y in F's tail. */
    private static void tailsOfDegreeAreReduced() {
        OrderMover x = new OrderMover();
        x.system(3, 1);
        x.put(0, 0, 2, 1);
        x.put(1, 0, 0, 3);
        stairsAre(x, 2, "00 10 20");
        memberIs(x, 2, 0, 0, 1, 3, 0, 0);
        memberIs(x, 2, 1, 3, 0, 2, 0, 0);
    }

    private static void membersCanBeBare() {
        OrderMover x = new OrderMover();
        baseIs(x, 3, 2, 2, 2);
        memberIs(x, 3, 0, 2, 0, 0, 0, 0, 0);
        memberIs(x, 3, 1, 0, 2, 0, 0, 0, 0);
    }

    /** By 7: x + 2 and y + 3. */
    private static void oneStair() {
        OrderMover x = new OrderMover();
        x.system(1, 1);
        x.put(0, 0, 0, 2);
        x.put(1, 0, 0, 3);
        for (int order = 0; order < 5; order++) {
            baseIs(x, order, 2, 1, 0);
            stairsAre(x, order, "00");
        }
        memberIs(x, 0, 0, 0, 1, 3);
        memberIs(x, 0, 1, 1, 0, 2);
        memberIs(x, 1, 0, 1, 0, 2);
        Due.due("5 times 4", x.normal(2, 1, 1, 0), 6);
        Due.due("x times 1", x.table(4, 0, 0, 0), 5);
        Due.due("y times 1", x.table(4, 1, 0, 0), 4);
        Due.due("5 to the 2147483647 (1 of 6)", x.normal(0, HIGHEST, 0, 0), 5);
        Due.due("4 to the 2147483647 (1 of 3)", x.normal(0, 0, HIGHEST, 0), 4);
        Due.due("s beyond D", x.normal(0, 0, 0, 1), BAD);
    }

    /** By 7: x x = 3, whose powers come again at the 6th, and y y = 1. */
    private static void highPowers() {
        OrderMover x = new OrderMover();
        x.put(0, 0, 0, 4);
        x.put(1, 0, 0, 6);
        int high = HIGHEST - 1;
        Due.due("3 to the 1073741823 (3 of 6)", x.normal(2, high, 0, 0), 6);
        Due.due("x times that", x.normal(2, HIGHEST, 0, 2), 6);
        Due.due("and nothing else", x.normal(2, HIGHEST, 0, 0), 0);
        Due.due("x y times that", x.normal(2, HIGHEST, HIGHEST, 3), 6);
        Due.due("y even", x.normal(2, HIGHEST, high, 2), 6);
        Due.due("in order 3 x is stair 1", x.normal(3, HIGHEST, high, 1), 6);
        Due.due("the term 1", x.normal(4, 0, 0, 0), 1);
        Due.due("the term 1 has no x", x.normal(4, 0, 0, 1), 0);
    }

    private static void normalAgreesWithTable() {
        OrderMover x = new OrderMover();
        x.field(11);
        x.system(3, 2);
        x.drift(4242);
        for (int order = 0; order < 5; order++) {
            for (int r = 0; r < 6; r++) {
                int i = x.stair(order, r, 0);
                int j = x.stair(order, r, 1);
                for (int s = 0; s < 6; s++) {
                    Due.due("a stair's own form", x.normal(order, i, j, s), r == s ? 1 : 0);
                    Due.due("x times", x.table(order, 0, r, s), x.normal(order, i + 1, j, s));
                    Due.due("y times", x.table(order, 1, r, s), x.normal(order, i, j + 1, s));
                }
            }
        }
    }

    private static void leastIs(OrderMover x, int v, int... numbers) {
        Due.due("degree of least of " + v, x.least(v, -1), numbers.length - 1);
        for (int k = 0; k < numbers.length; k++) {
            Due.due("least(" + v + ", " + k + ")", x.least(v, k), numbers[k]);
        }
        Due.due("beyond the degree", x.least(v, numbers.length), BAD);
    }

    private static void leastPolynomials() {
        OrderMover x = plain();
        leastIs(x, 0, 2, 2, 6, 0, 1);
        leastIs(x, 1, 5, 4, 0, 0, 1);
        x = three();
        leastIs(x, 0, 0, 0, 1);
        leastIs(x, 1, 0, 0, 0, 0, 0, 1);
        x.system(1, 3);
        x.put(0, 0, 0, 2);
        x.put(1, 1, 0, 1);
        leastIs(x, 0, 2, 1);
        leastIs(x, 1, 5, 0, 0, 1);
    }

    private static void rootsRise() {
        OrderMover x = new OrderMover();
        x.put(0, 0, 0, 6);
        x.put(1, 0, 0, 6);
        int[][] want = {{1, 1}, {1, 6}, {6, 1}, {6, 6}};
        for (int k = 0; k < 4; k++) {
            Due.due("x of root " + k, x.root(k, 0), want[k][0]);
            Due.due("y of root " + k, x.root(k, 1), want[k][1]);
        }
        Due.due("no fifth", x.root(4, 0), NONE);
        Due.due("none so far", x.root(HIGHEST, 1), NONE);
        Due.due("wrong what comes first", x.root(4, 2), BAD);
        x.put(1, 1, 0, 6);
        Due.due("y y = 1 + x: 2 and 0", x.count(8), 3);
        Due.due("3 for x = 1", x.root(0, 1), 3);
        Due.due("4 for x = 1", x.root(1, 1), 4);
        Due.due("0 for x = 6", x.root(2, 1), 0);
        Due.due("and x is 6", x.root(2, 0), 6);
    }

    private static void wrongNumbers() {
        OrderMover x = plain();
        int[] wrong = {-1, 5, LOWEST, HIGHEST};
        for (int w : wrong) {
            Due.due("base order", x.base(w, 0), BAD);
            Due.due("base what", x.base(0, w), BAD);
            Due.due("member order", x.member(w, 0, 0), BAD);
            Due.due("member k", x.member(0, w, 0), BAD);
            Due.due("member what", x.member(0, 0, w), BAD);
            Due.due("tail order", x.tail(w, 0, 0), BAD);
            Due.due("tail k", x.tail(0, w, 0), BAD);
            Due.due("tail s", x.tail(0, 0, w), BAD);
            Due.due("stair order", x.stair(w, 0, 0), BAD);
            Due.due("stair s", x.stair(0, w, 0), BAD);
            Due.due("stair what", x.stair(0, 0, w), BAD);
            Due.due("normal order", x.normal(w, 0, 0, 0), BAD);
            Due.due("normal s", x.normal(0, 0, 0, w), BAD);
            Due.due("table order", x.table(w, 0, 0, 0), BAD);
            Due.due("table v", x.table(0, w, 0, 0), BAD);
            Due.due("table r", x.table(0, 0, w, 0), BAD);
            Due.due("table s", x.table(0, 0, 0, w), BAD);
            Due.due("place order", x.place(w, 0, 0), BAD);
            Due.due("least v", x.least(w, 0), BAD);
            Due.due("root what", x.root(0, w), BAD);
        }
        int[] below = {-1, LOWEST};
        for (int w : below) {
            Due.due("normal i", x.normal(0, w, 0, 0), BAD);
            Due.due("normal j", x.normal(0, 0, w, 0), BAD);
            Due.due("place i", x.place(0, w, 0), BAD);
            Due.due("place j", x.place(0, 0, w), BAD);
            Due.due("root k", x.root(w, 0), BAD);
        }
        for (int k : new int[] {-2, LOWEST, 5, HIGHEST}) {
            Due.due("least k " + k, x.least(0, k), BAD);
        }
        Due.due("base what 3", x.base(0, 3), BAD);
        Due.due("member 2 of two", x.member(0, 2, 0), BAD);
        Due.due("member what 3", x.member(0, 0, 3), BAD);
        Due.due("tail of member 2 of two", x.tail(0, 2, 0), BAD);
        Due.due("tail of stair 4 of four", x.tail(0, 0, 4), BAD);
        Due.due("stair 4 of four", x.stair(0, 4, 0), BAD);
        Due.due("stair what 2", x.stair(0, 0, 2), BAD);
        Due.due("normal of stair 4 of four", x.normal(0, 0, 0, 4), BAD);
        Due.due("table v 2", x.table(0, 2, 0, 0), BAD);
        Due.due("table of stair 4 of four", x.table(0, 0, 4, 0), BAD);
        Due.due("table at stair 4 of four", x.table(0, 0, 0, 4), BAD);
        Due.due("least v 2", x.least(2, -1), BAD);
        Due.due("root what 2", x.root(0, 2), BAD);
    }
}
