/** Promises 1 to 8: a new object, field, system, put, get, weights, drift, count. */
public final class FieldSystemTest {
    private static final int BAD = -1, NOT = -2, NONE = -4, NULL = -11;
    private static final int LOWEST = Integer.MIN_VALUE, HIGHEST = Integer.MAX_VALUE;
    private static final String PRIMES =
            " 2 3 5 7 11 13 17 19 23 29 31 37 41 43 47 53 59 61 67 71 73 79 83 89 97 ";
    /** The first numbers drawn from seed 1. */
    private static final long[] DRAWN = {16807, 282475249, 1622650073, 984943658, 1144108930, 470211272,
        101027544, 1457850878, 1458777923, 2007237709, 823564440, 1115438165};

    public static void main(String[] args) {
        newObject();
        fieldTakesPrimes();
        fieldMovesNumbers();
        fieldMovesSlots();
        systemBeginsAnew();
        putAndGet();
        putRefuses();
        weightsOfOrderFour();
        driftDraws();
        driftRefuses();
        countOfSettings();
        countOfShape();
        countOfRoots();
        countOfSlots();
        Due.end();
    }

    private static void newObject() {
        OrderMover x = new OrderMover();
        int[] want = {7, 2, 2, 4, 1, 2, 0, 0, 1, 0, 0};
        for (int what = 0; what < want.length; what++) {
            Due.due("new count(" + what + ")", x.count(what), want[what]);
        }
        for (int of = 0; of < 2; of++) {
            Due.due("new get", x.get(of, 0, 0), 0);
            Due.due("new get", x.get(of, 1, 0), 0);
            Due.due("new get", x.get(of, 0, 1), 0);
            Due.due("new goBack", x.goBack(of), NOT);
        }
        for (int s = 0; s < 4; s++) {
            Due.due("new size", x.size(s), NULL);
        }
    }

    private static void fieldTakesPrimes() {
        OrderMover x = new OrderMover();
        int was = 7;
        for (int p = -3; p <= 110; p++) {
            boolean prime = PRIMES.contains(" " + p + " ");
            Due.due("field(" + p + ")", x.field(p), prime ? was : BAD);
            was = prime ? p : was;
            Due.due("count(0) behind field(" + p + ")", x.count(0), was);
        }
        Due.due("field(lowest)", x.field(LOWEST), BAD);
        Due.due("field(highest)", x.field(HIGHEST), BAD);
    }

    private static void fieldMovesNumbers() {
        OrderMover x = new OrderMover();
        x.put(0, 0, 0, 6);
        x.put(1, 0, 1, 5);
        x.put(1, 1, 0, 4);
        Due.due("field(9)", x.field(9), BAD);
        Due.due("get behind what was refused", x.get(0, 0, 0), 6);
        Due.due("field(5)", x.field(5), 7);
        Due.due("get of 6 by 5", x.get(0, 0, 0), 1);
        Due.due("get of 5 by 5", x.get(1, 0, 1), 0);
        Due.due("get of 4 by 5", x.get(1, 1, 0), 4);
        Due.due("field(97)", x.field(97), 5);
        Due.due("get stays", x.get(0, 0, 0), 1);
        Due.due("x x = -1 by 97", x.normal(2, 2, 0, 0), 96);
    }

    private static void fieldMovesSlots() {
        OrderMover x = new OrderMover();
        x.poly(0);
        x.add(0, 5, 3, 0);
        x.add(0, 6, 2, 0);
        x.add(0, 3, 1, 0);
        x.put(0, 0, 0, 6);
        x.keepBase(1, 2);
        x.field(5);
        Due.due("the term with 0 goes", x.size(0), 2);
        Due.due("6 left over by 5", x.term(0, 0, 0), 1);
        Due.due("its i", x.term(0, 0, 1), 2);
        Due.due("3 stays", x.term(0, 1, 0), 3);
        Due.due("a base's numbers are left over too", x.stands(1), 1);
        x.field(7);
        Due.due("what went stays away", x.size(0), 2);
        Due.due("1 stays 1", x.term(0, 0, 0), 1);
    }

    private static void systemBeginsAnew() {
        OrderMover x = new OrderMover();
        x.put(0, 0, 0, 3);
        x.put(1, 0, 0, 4);
        int[][] refused = {{0, 1}, {1, 0}, {4, 1}, {1, 4}, {-1, 2}, {2, -1}, {LOWEST, 1}, {1, HIGHEST}};
        for (int[] r : refused) {
            Due.due("system(" + r[0] + ", " + r[1] + ")", x.system(r[0], r[1]), BAD);
        }
        Due.due("get behind what was refused", x.get(0, 0, 0), 3);
        for (int a = 1; a <= 3; a++) {
            for (int b = 1; b <= 3; b++) {
                Due.due("system(" + a + ", " + b + ")", x.system(a, b), a * b);
                Due.due("A", x.count(1), a);
                Due.due("B", x.count(2), b);
                Due.due("D", x.count(3), a * b);
                Due.due("F is 0", x.put(0, 0, 0, 2), 0);
                Due.due("G is 0", x.put(1, 0, 0, 2), 0);
            }
        }
        x.system(3, 3);
        x.put(0, 0, 2, 5);
        x.system(1, 1);
        x.system(3, 3);
        Due.due("what stood high is gone too", x.get(0, 0, 2), 0);
    }

    private static void putAndGet() {
        OrderMover x = new OrderMover();
        x.system(3, 2);
        for (int of = 0; of < 2; of++) {
            for (int i = 0; i < 3 - of; i++) {
                for (int j = 0; i + j < 3 - of; j++) {
                    Due.due("put", x.put(of, i, j, of + 2 * i + j), 0);
                }
            }
        }
        for (int of = 0; of < 2; of++) {
            for (int i = 0; i < 3 - of; i++) {
                for (int j = 0; i + j < 3 - of; j++) {
                    Due.due("get", x.get(of, i, j), of + 2 * i + j);
                    Due.due("put again", x.put(of, i, j, 6), of + 2 * i + j);
                    Due.due("get", x.get(of, i, j), 6);
                }
            }
        }
        Due.due("put of 0", x.put(0, 1, 1, 0), 6);
        Due.due("get of 0", x.get(0, 1, 1), 0);
    }

    private static void putRefuses() {
        OrderMover x = new OrderMover();
        x.system(3, 2);
        int[][] places = {{2, 0, 0}, {-1, 0, 0}, {0, 3, 0}, {0, 0, 3}, {0, 2, 1}, {0, 1, 2}, {1, 2, 0}, {1, 1, 1},
            {1, 0, 2}, {0, -1, 0}, {0, 0, -1}, {0, -1, 1}, {0, 1, -1}, {0, HIGHEST, HIGHEST}, {0, HIGHEST, 1},
            {0, LOWEST, LOWEST}, {1, LOWEST, HIGHEST}};
        for (int[] at : places) {
            String where = at[0] + ", " + at[1] + ", " + at[2];
            Due.due("put at " + where, x.put(at[0], at[1], at[2], 1), BAD);
            Due.due("get at " + where, x.get(at[0], at[1], at[2]), BAD);
        }
        for (int c : new int[] {-1, 7, LOWEST, HIGHEST}) {
            Due.due("put of " + c, x.put(0, 0, 0, c), BAD);
        }
        Due.due("nothing was put", x.get(0, 0, 0), 0);
        x.field(2);
        Due.due("put of 2 by 2", x.put(0, 0, 0, 2), BAD);
        Due.due("put of 1 by 2", x.put(0, 0, 0, 1), 0);
    }

    private static void weightsOfOrderFour() {
        OrderMover x = new OrderMover();
        int[][] refused = {{0, 1}, {1, 0}, {10, 1}, {1, 10}, {-1, 5}, {LOWEST, HIGHEST}};
        for (int[] r : refused) {
            Due.due("weights(" + r[0] + ", " + r[1] + ")", x.weights(r[0], r[1]), BAD);
        }
        Due.due("weights(9, 1)", x.weights(9, 1), 12);
        Due.due("weights(1, 9)", x.weights(1, 9), 91);
        Due.due("U", x.count(4), 1);
        Due.due("V", x.count(5), 9);
        Due.due("x is below y by 1, 9", x.stair(4, 1, 0), 1);
        Due.due("weights(9, 2)", x.weights(9, 2), 19);
        Due.due("y is below x by 9, 2", x.stair(4, 1, 1), 1);
    }

    private static void driftDraws() {
        OrderMover x = new OrderMover();
        x.field(97);
        x.system(3, 3);
        Due.due("drift(1)", x.drift(1), 9);
        int drawn = 0;
        for (int of = 0; of < 2; of++) {
            for (int j = 0; j < 3; j++) {
                for (int i = 0; i + j < 3; i++) {
                    Due.due("drawn " + drawn, x.get(of, i, j), DRAWN[drawn] % 97);
                    drawn++;
                }
            }
        }
        x.system(1, 2);
        Due.due("drift(1) again", x.drift(1), 2);
        Due.due("F has one", x.get(0, 0, 0), DRAWN[0] % 97);
        Due.due("G goes on", x.get(1, 0, 0), DRAWN[1] % 97);
        Due.due("i rises first", x.get(1, 1, 0), DRAWN[2] % 97);
        Due.due("then j", x.get(1, 0, 1), DRAWN[3] % 97);
    }

    private static void driftRefuses() {
        OrderMover x = new OrderMover();
        for (int seed : new int[] {0, -1, 1000000, LOWEST, HIGHEST}) {
            Due.due("drift(" + seed + ")", x.drift(seed), BAD);
        }
        Due.due("nothing was drawn", x.get(0, 0, 0), 0);
        Due.due("drift(999999)", x.drift(999999), 4);
        Due.due("drawn of it", x.get(0, 0, 0), 999999L * 16807 % 2147483647 % 7);
    }

    private static void countOfSettings() {
        OrderMover x = new OrderMover();
        x.field(13);
        x.system(3, 1);
        x.weights(4, 6);
        int[] want = {13, 3, 1, 3, 4, 6};
        for (int what = 0; what < want.length; what++) {
            Due.due("count(" + what + ")", x.count(what), want[what]);
        }
        for (int what : new int[] {-1, 11, LOWEST, HIGHEST}) {
            Due.due("count(" + what + ")", x.count(what), BAD);
        }
    }

    private static void countOfShape() {
        OrderMover x = new OrderMover();
        x.put(0, 0, 0, 6);
        x.put(1, 0, 0, 6);
        Due.due("x x = 1, y y = 1 has two members, but x is a stair", x.count(6), 0);
        Due.due("x x = 1, y y = 1 is radical", x.count(7), 1);
        x.put(1, 0, 0, 0);
        Due.due("y y = 0 alone is not", x.count(7), 0);
        x.put(0, 0, 0, 0);
        x.put(1, 0, 0, 6);
        Due.due("x x = 0 alone is not", x.count(7), 0);
        x.put(1, 1, 0, 1);
        Due.due("x = 1 - y y is plain", x.count(6), 1);
        x.field(2);
        x.system(2, 2);
        x.put(0, 0, 0, 1);
        x.put(1, 0, 0, 1);
        x.put(1, 0, 1, 1);
        Due.due("x x + 1 is a square by 2", x.count(7), 0);
        x.put(0, 1, 0, 1);
        Due.due("x x + x + 1 has no factor twice by 2", x.count(7), 1);
        x.field(3);
        x.system(3, 1);
        x.put(0, 0, 0, 2);
        Due.due("x x x - 1 is a cube by 3", x.count(7), 0);
        x.put(0, 1, 0, 2);
        Due.due("x x x - x - 1 has no factor twice by 3", x.count(7), 1);
        Due.due("y is no stair", x.count(6), 0);
        x.system(1, 3);
        Due.due("1, y, y y is plain", x.count(6), 1);
        x.system(1, 1);
        Due.due("1 alone is plain", x.count(6), 1);
        Due.due("and radical", x.count(7), 1);
    }

    private static void countOfRoots() {
        OrderMover x = new OrderMover();
        x.system(3, 3);
        Due.due("0, 0 alone", x.count(8), 1);
        x.put(0, 0, 0, 6);
        x.put(1, 0, 0, 6);
        Due.due("three and three cube roots of 1", x.count(8), 9);
        int[] cubeRoots = {1, 2, 4};
        for (int k = 0; k < 9; k++) {
            Due.due("root(" + k + ", 0)", x.root(k, 0), cubeRoots[k / 3]);
            Due.due("root(" + k + ", 1)", x.root(k, 1), cubeRoots[k % 3]);
        }
        Due.due("root(9, 0)", x.root(9, 0), NONE);
        x.field(5);
        x.field(7);
        Due.due("x x x = -1 now", x.root(0, 0), 3);
        x.system(2, 2);
        x.put(0, 0, 0, 1);
        Due.due("-1 is no square by 7", x.count(8), 0);
    }

    private static void countOfSlots() {
        OrderMover x = new OrderMover();
        x.poly(0);
        x.poly(3);
        x.keepBase(1, 0);
        Due.due("polynomials", x.count(9), 2);
        Due.due("bases", x.count(10), 1);
        x.keepBase(0, 2);
        Due.due("polynomials", x.count(9), 1);
        Due.due("bases", x.count(10), 2);
        x.drop(0);
        x.drop(3);
        Due.due("polynomials", x.count(9), 0);
        Due.due("bases", x.count(10), 1);
    }
}
