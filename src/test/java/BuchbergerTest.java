import java.util.ArrayDeque;
import java.util.ArrayList;
import java.util.Comparator;
import java.util.Deque;
import java.util.List;
import java.util.TreeMap;

/**
 * The bases by a third way: from F and G themselves by Buchberger's steps, in each order anew. The class and the
 * model both go through the quotient by degree, so a fault in that thought would be in both.
 */
public final class BuchbergerTest {
    private static final int ORDERS = 5, BOX = 10;

    private record Term(int i, int j) {
        boolean divides(Term t) {
            return i <= t.i && j <= t.j;
        }

        Term times(Term t) {
            return new Term(i + t.i, j + t.j);
        }

        Term over(Term t) {
            return new Term(i - t.i, j - t.j);
        }
    }

    /** What is put into the object: the coefficients of F, then of G, by j, then i rising, as drift() goes. */
    private record Given(int p, int a, int b, int u, int v, int[] c) {
        OrderMover mover() {
            OrderMover x = new OrderMover();
            x.field(p);
            x.system(a, b);
            x.weights(u, v);
            int k = 0;
            for (int of = 0; of < 2; of++) {
                for (Term t : terms(of)) {
                    x.put(of, t.i, t.j, c[k++]);
                }
            }
            return x;
        }

        List<Term> terms(int of) {
            int power = of == 0 ? a : b;
            List<Term> terms = new ArrayList<>();
            for (int j = 0; j < power; j++) {
                for (int i = 0; i + j < power; i++) {
                    terms.add(new Term(i, j));
                }
            }
            return terms;
        }
    }

    private final Given given;
    private final int order;
    private final Comparator<Term> rising;
    private final List<TreeMap<Term, Integer>> base = new ArrayList<>();
    private final List<Term> stairs = new ArrayList<>();
    private final OrderMover mover;

    private BuchbergerTest(Given given, int order) {
        this.given = given;
        this.order = order;
        rising = rising(given, order);
        mover = given.mover();
    }

    public static void main(String[] args) {
        everySystemByTwo();
        systemsOfEachField();
        Due.end();
    }

    /** The weights go through all their pairs meanwhile. */
    private static void everySystemByTwo() {
        int pair = 0;
        for (int a = 1; a <= 3; a++) {
            for (int b = 1; b <= 3; b++) {
                int numbers = a * (a + 1) / 2 + b * (b + 1) / 2;
                for (int bits = 0; bits < 1 << numbers; bits++) {
                    int[] c = new int[numbers];
                    for (int k = 0; k < numbers; k++) {
                        c[k] = bits >> k & 1;
                    }
                    inEachOrder(new Given(2, a, b, pair % 9 + 1, pair / 9 % 9 + 1, c));
                    pair++;
                }
            }
        }
    }

    /** Of each system three: all numbers drawn, one of three, one of six; few numbers give the odd staircases. */
    private static void systemsOfEachField() {
        long x = 1;
        for (int p : new int[] {3, 5, 7, 11, 13, 17, 19, 23, 29, 31, 37, 41, 43, 47, 53, 59, 61, 67, 71, 73, 79, 83, 89, 97}) {
            for (int shape = 0; shape < 27; shape++) {
                int a = shape % 3 + 1;
                int b = shape / 3 % 3 + 1;
                int[] c = new int[a * (a + 1) / 2 + b * (b + 1) / 2];
                for (int k = 0; k < c.length; k++) {
                    x = x * 48271 % 2147483647;
                    boolean drawn = shape < 9 || x % (shape < 18 ? 3 : 6) == 0;
                    c[k] = drawn ? (int) (x / 6 % p) : 0;
                }
                inEachOrder(new Given(p, a, b, (int) (x % 9) + 1, (int) (x / 9 % 9) + 1, c));
            }
        }
    }

    private static void inEachOrder(Given given) {
        for (int order = 0; order < ORDERS; order++) {
            BuchbergerTest test = new BuchbergerTest(given, order);
            test.findBase();
            test.compareBase();
            test.compareForms();
        }
    }

    private static Comparator<Term> rising(Given g, int order) {
        Comparator<Term> byI = Comparator.comparingInt(Term::i);
        Comparator<Term> byJ = Comparator.comparingInt(Term::j);
        Comparator<Term> byBoth = Comparator.comparingInt(t -> t.i + t.j);
        Comparator<Term> byWeights = Comparator.comparingInt(t -> g.u * t.i + g.v * t.j);
        return switch (order) {
            case 0 -> byI.thenComparing(byJ);
            case 1 -> byJ.thenComparing(byI);
            case 2 -> byBoth.thenComparing(byI);
            case 3 -> byBoth.thenComparing(byJ);
            default -> byWeights.thenComparing(byI);
        };
    }

    // ---- Buchberger's steps

    private void findBase() {
        base.add(polynomial(0, new Term(given.a, 0), 0));
        base.add(polynomial(1, new Term(0, given.b), given.terms(0).size()));
        Deque<int[]> pairs = new ArrayDeque<>();
        pairs.add(new int[] {0, 1});
        while (!pairs.isEmpty()) {
            int[] pair = pairs.remove();
            TreeMap<Term, Integer> left = remainder(difference(base.get(pair[0]), base.get(pair[1])), base);
            if (!left.isEmpty()) {
                for (int k = 0; k < base.size(); k++) {
                    pairs.add(new int[] {k, base.size()});
                }
                base.add(monic(left));
            }
        }
        takeNeedlessAway();
        base.sort((f, g) -> rising.compare(f.lastKey(), g.lastKey()));
        findStairs();
    }

    private TreeMap<Term, Integer> polynomial(int of, Term power, int from) {
        TreeMap<Term, Integer> made = new TreeMap<>(rising);
        made.put(power, 1);
        int k = from;
        for (Term t : given.terms(of)) {
            bring(made, t, given.c[k++]);
        }
        return monic(made);
    }

    private void bring(TreeMap<Term, Integer> into, Term t, int n) {
        int now = Math.floorMod(into.getOrDefault(t, 0) + n, given.p);
        if (now == 0) {
            into.remove(t);
        } else {
            into.put(t, now);
        }
    }

    private void bringMultiple(TreeMap<Term, Integer> into, TreeMap<Term, Integer> f, Term by, int n) {
        f.forEach((t, m) -> bring(into, t.times(by), n * m));
    }

    private TreeMap<Term, Integer> monic(TreeMap<Term, Integer> f) {
        int lead = f.lastEntry().getValue();
        int scale = 1;
        while (scale * lead % given.p != 1) {
            scale++;
        }
        TreeMap<Term, Integer> made = new TreeMap<>(rising);
        bringMultiple(made, f, new Term(0, 0), scale);
        return made;
    }

    /** Of the least multiples that begin with the same term. */
    private TreeMap<Term, Integer> difference(TreeMap<Term, Integer> f, TreeMap<Term, Integer> g) {
        Term s = f.lastKey();
        Term t = g.lastKey();
        Term both = new Term(Math.max(s.i, t.i), Math.max(s.j, t.j));
        TreeMap<Term, Integer> made = new TreeMap<>(rising);
        bringMultiple(made, f, both.over(s), 1);
        bringMultiple(made, g, both.over(t), -1);
        return made;
    }

    private TreeMap<Term, Integer> remainder(TreeMap<Term, Integer> f, List<TreeMap<Term, Integer>> by) {
        TreeMap<Term, Integer> rest = new TreeMap<>(rising);
        while (!f.isEmpty()) {
            Term t = f.lastKey();
            int n = f.get(t);
            TreeMap<Term, Integer> divisor = by.stream().filter(g -> g.lastKey().divides(t)).findFirst().orElse(null);
            if (divisor == null) {
                rest.put(t, n);
                f.remove(t);
            } else {
                bringMultiple(f, divisor, t.over(divisor.lastKey()), -n);
            }
        }
        return rest;
    }

    private void takeNeedlessAway() {
        for (int k = base.size() - 1; k >= 0; k--) {
            TreeMap<Term, Integer> one = base.remove(k);
            if (base.stream().noneMatch(g -> g.lastKey().divides(one.lastKey()))) {
                base.add(k, one);
            }
        }
        for (int k = 0; k < base.size(); k++) {
            TreeMap<Term, Integer> one = base.remove(k);
            base.add(k, remainder(one, base));
        }
    }

    private void findStairs() {
        for (int i = 0; i < BOX; i++) {
            for (int j = 0; j < BOX; j++) {
                Term t = new Term(i, j);
                if (base.stream().noneMatch(g -> g.lastKey().divides(t))) {
                    stairs.add(t);
                }
            }
        }
        stairs.sort(rising);
    }

    // ---- what the class answers; no object is asked more than 512 times

    private void due(String what, int got, int want) {
        if (got != want) {
            Due.due(given + java.util.Arrays.toString(given.c) + ", order " + order + ": " + what, got, want);
        } else {
            Due.due(what, got, want);
        }
    }

    private void compareBase() {
        due("D", mover.count(3), stairs.size());
        due("members", mover.base(order, 0), base.size());
        due("greatest lead", mover.base(order, 1), base.stream().mapToInt(g -> g.lastKey().i + g.lastKey().j).max().getAsInt());
        due("greatest stair", mover.base(order, 2), stairs.stream().mapToInt(t -> t.i + t.j).max().getAsInt());
        for (int k = 0; k < base.size(); k++) {
            TreeMap<Term, Integer> member = base.get(k);
            due("i of what leads", mover.member(order, k, 0), member.lastKey().i);
            due("j of what leads", mover.member(order, k, 1), member.lastKey().j);
            due("terms of a member", mover.member(order, k, 2), member.size());
            for (int s = 0; s < stairs.size(); s++) {
                due("tail", mover.tail(order, k, s), member.getOrDefault(stairs.get(s), 0));
            }
        }
        for (int s = 0; s < stairs.size(); s++) {
            due("i of a stair", mover.stair(order, s, 0), stairs.get(s).i);
            due("j of a stair", mover.stair(order, s, 1), stairs.get(s).j);
        }
        if (order == 0) {
            due("plain", mover.count(6), base.size() == 2 && stairs.stream().allMatch(t -> t.i == 0) ? 1 : 0);
        }
    }

    private void compareForms() {
        for (int i = 0; i <= BOX; i++) {
            for (int j = 0; j <= BOX; j++) {
                int at = stairs.indexOf(new Term(i, j));
                due("place", mover.place(order, i, j), at < 0 ? OrderMover.NONE : at);
            }
        }
        for (int r = 0; r < stairs.size(); r++) {
            int[] right = form(stairs.get(r).times(new Term(1, 0)));
            int[] up = form(stairs.get(r).times(new Term(0, 1)));
            for (int s = 0; s < stairs.size(); s++) {
                due("x times a stair", mover.table(order, 0, r, s), right[s]);
                due("y times a stair", mover.table(order, 1, r, s), up[s]);
            }
        }
        for (Term t : List.of(new Term(4, 3), new Term(0, 11), new Term(13, 0), new Term(6, 7))) {
            int[] form = form(t);
            for (int s = 0; s < stairs.size(); s++) {
                due("normal", mover.normal(order, t.i, t.j, s), form[s]);
            }
        }
    }

    private int[] form(Term t) {
        TreeMap<Term, Integer> one = new TreeMap<>(rising);
        one.put(t, 1);
        TreeMap<Term, Integer> left = remainder(one, base);
        return stairs.stream().mapToInt(stair -> left.getOrDefault(stair, 0)).toArray();
    }
}
