import java.math.BigInteger;
import java.util.ArrayList;
import java.util.Arrays;
import java.util.Comparator;
import java.util.List;
import java.util.TreeMap;

/**
 * The document's words done slowly and by other means than the class: whether a term leads is asked
 * of all lesser terms together, radical of the powers by p, roots of all pairs of numbers.
 */
final class Model {
    private static final int BAD = -1, NOT = -2, FULL = -3, NONE = -4, NULL = -11, CAST = -12, MUCH = -13;
    /** Beyond this power no term can be a stair or a least one that leads, as D is at most 9. */
    private static final int BOX = 9;
    private static final BigInteger MOST = BigInteger.valueOf(2147483647);

    private record Term(int i, int j) {
    }

    private record State(int p, int a, int b, int u, int v, int[][][] c) {
        State copy() {
            int[][][] d = new int[2][3][3];
            for (int of = 0; of < 2; of++) {
                for (int i = 0; i < 3; i++) {
                    d[of][i] = c[of][i].clone();
                }
            }
            return new State(p, a, b, u, v, d);
        }
    }

    private record Found(List<Term> stairs, List<Term> leads, List<int[]> tails, int[][] columns) {
    }

    private record Kept(int order, int u, int v, List<Term> leads, List<int[]> tails) {
    }

    private static final Comparator<Term> FALLING = (s, t) ->
            s.i != t.i ? Integer.compare(t.i, s.i) : Integer.compare(t.j, s.j);

    private int p = 7, a = 2, b = 2, u = 1, v = 2;
    private int[][][] c = new int[2][3][3];
    private final Object[] slots = new Object[4];
    private final State[] images = new State[2];
    private final Found[] cache = new Found[5];

    private void changed() {
        Arrays.fill(cache, null);
    }

    // ---- the field

    private int mod(long n) {
        return (int) Math.floorMod(n, (long) p);
    }

    private int inverse(int n) {
        return BigInteger.valueOf(n).modInverse(BigInteger.valueOf(p)).intValue();
    }

    // ---- polynomials by degree: int[i][j], divided by F and G until nothing can be

    private int[] divide(int[][] poly) {
        int side = poly.length;
        for (int d = 2 * side; d >= 0; d--) {
            for (int i = Math.min(d, side - 1); i >= 0 && d - i < side; i--) {
                int j = d - i;
                int n = poly[i][j];
                if (n == 0 || i < a && j < b) {
                    continue;
                }
                int of = i >= a ? 0 : 1;
                poly[i][j] = 0;
                int power = of == 0 ? a : b;
                for (int k = 0; k < power; k++) {
                    for (int l = 0; k + l < power; l++) {
                        int x = of == 0 ? i - a + k : i + k;
                        int y = of == 0 ? j + l : j - b + l;
                        poly[x][y] = mod(poly[x][y] - (long) n * c[of][k][l]);
                    }
                }
            }
        }
        int[] vector = new int[a * b];
        for (int i = 0; i < a; i++) {
            for (int j = 0; j < b; j++) {
                vector[i * b + j] = poly[i][j];
            }
        }
        return vector;
    }

    private int[] product(int[] s, int[] t) {
        int[][] poly = new int[12][12];
        for (int k = 0; k < s.length; k++) {
            for (int l = 0; l < t.length; l++) {
                int x = k / b + l / b;
                int y = k % b + l % b;
                poly[x][y] = mod(poly[x][y] + (long) s[k] * t[l]);
            }
        }
        return divide(poly);
    }

    private int[] power(int[] s, int n) {
        int[] done = vectorOfSmall(0, 0);
        int[] square = s;
        for (int left = n; left > 0; left >>= 1) {
            if ((left & 1) == 1) {
                done = product(done, square);
            }
            square = product(square, square);
        }
        return done;
    }

    private int[] vectorOfSmall(int i, int j) {
        int[][] poly = new int[12][12];
        poly[i][j] = 1;
        return divide(poly);
    }

    private int[] vectorOf(int i, int j) {
        return product(power(vectorOfSmall(1, 0), i), power(vectorOfSmall(0, 1), j));
    }

    // ---- linear algebra

    /** x with sum of x[k] times columns[k] = target, or null. Columns need not be independent. */
    private int[] solve(List<int[]> columns, int[] target) {
        int n = columns.size();
        int m = target.length;
        int[][] rows = new int[m][n + 1];
        for (int r = 0; r < m; r++) {
            for (int k = 0; k < n; k++) {
                rows[r][k] = columns.get(k)[r];
            }
            rows[r][n] = target[r];
        }
        int[] pivotOf = new int[n];
        Arrays.fill(pivotOf, -1);
        int done = 0;
        for (int k = 0; k < n && done < m; k++) {
            int r = done;
            while (r < m && rows[r][k] == 0) {
                r++;
            }
            if (r == m) {
                continue;
            }
            int[] swap = rows[r];
            rows[r] = rows[done];
            rows[done] = swap;
            int scale = inverse(swap[k]);
            for (int q = 0; q <= n; q++) {
                swap[q] = mod((long) swap[q] * scale);
            }
            for (int other = 0; other < m; other++) {
                int much = rows[other][k];
                if (other != done && much != 0) {
                    for (int q = 0; q <= n; q++) {
                        rows[other][q] = mod(rows[other][q] - (long) much * swap[q]);
                    }
                }
            }
            pivotOf[k] = done;
            done++;
        }
        for (int r = done; r < m; r++) {
            if (rows[r][n] != 0) {
                return null;
            }
        }
        int[] x = new int[n];
        for (int k = 0; k < n; k++) {
            x[k] = pivotOf[k] < 0 ? 0 : rows[pivotOf[k]][n];
        }
        return x;
    }

    // ---- orders and bases

    private static BigInteger big(long n) {
        return BigInteger.valueOf(n);
    }

    private static BigInteger compared(int order, int wu, int wv, Term t) {
        if (order == 4) {
            return big(wu).multiply(big(t.i)).add(big(wv).multiply(big(t.j)));
        }
        return big(t.i).add(big(t.j));
    }

    private static Comparator<Term> rising(int order, int wu, int wv) {
        Comparator<Term> byI = Comparator.comparingInt(Term::i);
        Comparator<Term> byJ = Comparator.comparingInt(Term::j);
        switch (order) {
            case 0:
                return byI.thenComparing(byJ);
            case 1:
                return byJ.thenComparing(byI);
            case 2:
                return Comparator.<Term, BigInteger>comparing(t -> compared(2, 1, 1, t)).thenComparing(byI);
            case 3:
                return Comparator.<Term, BigInteger>comparing(t -> compared(3, 1, 1, t)).thenComparing(byJ);
            default:
                return Comparator.<Term, BigInteger>comparing(t -> compared(4, wu, wv, t)).thenComparing(byI);
        }
    }

    private int[] smallOrPower(Term t) {
        return vectorOf(t.i, t.j);
    }

    private Found find(int order, int wu, int wv) {
        List<Term> terms = new ArrayList<>();
        for (int i = 0; i <= BOX; i++) {
            for (int j = 0; j <= BOX; j++) {
                terms.add(new Term(i, j));
            }
        }
        terms.sort(rising(order, wu, wv));
        boolean[][] leads = new boolean[BOX + 1][BOX + 1];
        List<int[]> lesser = new ArrayList<>();
        List<Term> stairs = new ArrayList<>();
        List<int[]> stairVectors = new ArrayList<>();
        for (Term t : terms) {
            int[] vector = smallOrPower(t);
            leads[t.i][t.j] = solve(lesser, vector) != null;
            if (!leads[t.i][t.j]) {
                stairs.add(t);
                stairVectors.add(vector);
            }
            lesser.add(vector);
        }
        List<Term> heads = new ArrayList<>();
        List<int[]> tails = new ArrayList<>();
        for (Term t : terms) {
            if (leads[t.i][t.j] && !(t.i > 0 && leads[t.i - 1][t.j]) && !(t.j > 0 && leads[t.i][t.j - 1])) {
                heads.add(t);
                int[] tail = solve(stairVectors, smallOrPower(t));
                for (int k = 0; k < tail.length; k++) {
                    tail[k] = mod(-tail[k]);
                }
                tails.add(tail);
            }
        }
        return new Found(stairs, heads, tails, stairVectors.toArray(new int[0][]));
    }

    private Found found(int order) {
        if (cache[order] == null) {
            cache[order] = find(order, u, v);
        }
        return cache[order];
    }

    private int[] least(int of) {
        List<int[]> powers = new ArrayList<>();
        for (int k = 0; ; k++) {
            int[] vector = of == 0 ? vectorOf(k, 0) : vectorOf(0, k);
            int[] x = solve(powers, vector);
            if (x != null) {
                int[] numbers = new int[k + 1];
                for (int l = 0; l < k; l++) {
                    numbers[l] = mod(-x[l]);
                }
                numbers[k] = 1;
                return numbers;
            }
            powers.add(vector);
        }
    }

    /** To the power p is linear over the field; it sends no vector but 0 to 0, if nothing is nilpotent. */
    private boolean radical() {
        List<int[]> images = new ArrayList<>();
        for (int k = 0; k < a * b; k++) {
            int[] image = power(vectorOf(k / b, k % b), p);
            if (solve(images, image) != null) {
                return false;
            }
            images.add(image);
        }
        return true;
    }

    private List<Term> roots() {
        List<Term> roots = new ArrayList<>();
        for (int x = 0; x < p; x++) {
            for (int y = 0; y < p; y++) {
                if (value(0, x, y) == 0 && value(1, x, y) == 0) {
                    roots.add(new Term(x, y));
                }
            }
        }
        return roots;
    }

    private int value(int of, int x, int y) {
        int power = of == 0 ? a : b;
        long sum = pow(of == 0 ? x : y, power);
        for (int i = 0; i < power; i++) {
            for (int j = 0; i + j < power; j++) {
                sum += c[of][i][j] * pow(x, i) * pow(y, j);
            }
        }
        return mod(sum);
    }

    private static long pow(long n, int k) {
        return k == 0 ? 1 : n * pow(n, k - 1);
    }

    // ---- the face

    private boolean number(int n) {
        return n >= 0 && n < p;
    }

    private static boolean order(int n) {
        return n >= 0 && n <= 4;
    }

    private static boolean slot(int s) {
        return s >= 0 && s <= 3;
    }

    int field(int n) {
        if (n < 2 || n > 97 || !big(n).isProbablePrime(30)) {
            return BAD;
        }
        int was = p;
        p = n;
        for (int[][] one : c) {
            for (int[] row : one) {
                for (int k = 0; k < 3; k++) {
                    row[k] %= p;
                }
            }
        }
        moveSlots();
        changed();
        return was;
    }

    private void moveSlots() {
        for (int s = 0; s < 4; s++) {
            if (slots[s] instanceof Kept k) {
                for (int[] tail : k.tails) {
                    for (int n = 0; n < tail.length; n++) {
                        tail[n] %= p;
                    }
                }
            } else if (slots[s] != null) {
                TreeMap<Term, Integer> poly = poly0(s);
                poly.replaceAll((t, n) -> n % p);
                poly.values().removeIf(n -> n == 0);
            }
        }
    }

    int system(int x, int y) {
        if (x < 1 || x > 3 || y < 1 || y > 3) {
            return BAD;
        }
        a = x;
        b = y;
        c = new int[2][3][3];
        changed();
        return a * b;
    }

    private boolean coefficient(int of, int i, int j) {
        return of >= 0 && of <= 1 && i >= 0 && j >= 0 && (long) i + j < (of == 0 ? a : b);
    }

    int put(int of, int i, int j, int n) {
        if (!coefficient(of, i, j) || !number(n)) {
            return BAD;
        }
        int was = c[of][i][j];
        c[of][i][j] = n;
        changed();
        return was;
    }

    int get(int of, int i, int j) {
        return coefficient(of, i, j) ? c[of][i][j] : BAD;
    }

    int weights(int x, int y) {
        if (x < 1 || x > 9 || y < 1 || y > 9) {
            return BAD;
        }
        int was = 10 * u + v;
        u = x;
        v = y;
        changed();
        return was;
    }

    int drift(int seed) {
        if (seed < 1 || seed > 999999) {
            return BAD;
        }
        BigInteger x = big(seed);
        for (int of = 0; of < 2; of++) {
            int power = of == 0 ? a : b;
            for (int j = 0; j < power; j++) {
                for (int i = 0; i + j < power; i++) {
                    x = x.multiply(big(16807)).mod(MOST);
                    c[of][i][j] = x.mod(big(p)).intValue();
                }
            }
        }
        changed();
        return a * b;
    }

    int count(int what) {
        switch (what) {
            case 0: return p;
            case 1: return a;
            case 2: return b;
            case 3: return a * b;
            case 4: return u;
            case 5: return v;
            case 6:
                boolean plain = found(0).leads.size() == 2;
                for (int s = 0; s < a * b; s++) {
                    plain &= found(0).stairs.get(s).equals(new Term(0, s));
                }
                return plain ? 1 : 0;
            case 7: return radical() ? 1 : 0;
            case 8: return roots().size();
            case 9: return (int) Arrays.stream(slots).filter(s -> s instanceof TreeMap).count();
            case 10: return (int) Arrays.stream(slots).filter(s -> s instanceof Kept).count();
            default: return BAD;
        }
    }

    int base(int order, int what) {
        if (!order(order) || what < 0 || what > 2) {
            return BAD;
        }
        Found f = found(order);
        if (what == 0) {
            return f.leads.size();
        }
        return (what == 1 ? f.leads : f.stairs).stream().mapToInt(t -> t.i + t.j).max().getAsInt();
    }

    int member(int order, int k, int what) {
        if (!order(order) || what < 0 || what > 2 || k < 0 || k >= found(order).leads.size()) {
            return BAD;
        }
        Found f = found(order);
        return what == 0 ? f.leads.get(k).i : what == 1 ? f.leads.get(k).j
                : 1 + (int) Arrays.stream(f.tails.get(k)).filter(n -> n != 0).count();
    }

    int tail(int order, int k, int s) {
        if (!order(order) || k < 0 || k >= found(order).leads.size() || s < 0 || s >= a * b) {
            return BAD;
        }
        return found(order).tails.get(k)[s];
    }

    int stair(int order, int s, int what) {
        if (!order(order) || s < 0 || s >= a * b || what < 0 || what > 1) {
            return BAD;
        }
        Term t = found(order).stairs.get(s);
        return what == 0 ? t.i : t.j;
    }

    private int[] form(int order, int[] vector) {
        return solve(Arrays.asList(found(order).columns), vector);
    }

    int normal(int order, int i, int j, int s) {
        if (!order(order) || i < 0 || j < 0 || s < 0 || s >= a * b) {
            return BAD;
        }
        return form(order, vectorOf(i, j))[s];
    }

    int table(int order, int of, int r, int s) {
        if (!order(order) || of < 0 || of > 1 || r < 0 || r >= a * b || s < 0 || s >= a * b) {
            return BAD;
        }
        Term t = found(order).stairs.get(r);
        return form(order, of == 0 ? vectorOf(t.i + 1, t.j) : vectorOf(t.i, t.j + 1))[s];
    }

    int place(int order, int i, int j) {
        if (!order(order) || i < 0 || j < 0) {
            return BAD;
        }
        int at = found(order).stairs.indexOf(new Term(i, j));
        return at < 0 ? NONE : at;
    }

    int least(int of, int k) {
        if (of < 0 || of > 1 || k < -1) {
            return BAD;
        }
        int[] numbers = least(of);
        return k == -1 ? numbers.length - 1 : k < numbers.length ? numbers[k] : BAD;
    }

    int root(int k, int what) {
        if (k < 0 || what < 0 || what > 1) {
            return BAD;
        }
        List<Term> roots = roots();
        return k >= roots.size() ? NONE : what == 0 ? roots.get(k).i : roots.get(k).j;
    }

    private int kind(int s) {
        return slots[s] == null ? 0 : slots[s] instanceof Kept ? 2 : 1;
    }

    @SuppressWarnings("unchecked")
    private TreeMap<Term, Integer> poly0(int s) {
        return (TreeMap<Term, Integer>) slots[s];
    }

    int poly(int s) {
        if (!slot(s)) {
            return BAD;
        }
        int was = kind(s);
        slots[s] = new TreeMap<Term, Integer>(FALLING);
        return was;
    }

    int keepBase(int s, int order) {
        if (!slot(s) || !order(order)) {
            return BAD;
        }
        Found f = found(order);
        List<int[]> tails = new ArrayList<>();
        for (int[] tail : f.tails) {
            tails.add(tail.clone());
        }
        slots[s] = new Kept(order, u, v, f.leads, tails);
        return f.leads.size();
    }

    int drop(int s) {
        if (!slot(s)) {
            return BAD;
        }
        int was = kind(s);
        slots[s] = null;
        return was;
    }

    private void bring(TreeMap<Term, Integer> into, Term t, long n) {
        int now = mod(into.getOrDefault(t, 0) + n);
        if (now == 0) {
            into.remove(t);
        } else {
            into.put(t, now);
        }
    }

    private int settle(int s, TreeMap<Term, Integer> made) {
        if (made.size() > 8) {
            return FULL;
        }
        slots[s] = made;
        return made.size();
    }

    int add(int s, int n, int i, int j) {
        if (!slot(s) || !number(n) || i < 0 || j < 0) {
            return BAD;
        }
        if (kind(s) != 1) {
            return kind(s) == 0 ? NULL : CAST;
        }
        TreeMap<Term, Integer> made = new TreeMap<>(poly0(s));
        bring(made, new Term(i, j), n);
        return settle(s, made);
    }

    int term(int s, int k, int what) {
        if (!slot(s) || k < 0 || what < 0 || what > 2) {
            return BAD;
        }
        if (kind(s) != 1) {
            return kind(s) == 0 ? NULL : CAST;
        }
        if (k >= poly0(s).size()) {
            return NONE;
        }
        Term t = new ArrayList<>(poly0(s).keySet()).get(k);
        return what == 0 ? poly0(s).get(t) : what == 1 ? t.i : t.j;
    }

    int size(int s) {
        if (!slot(s)) {
            return BAD;
        }
        return kind(s) == 0 ? NULL : kind(s) == 1 ? poly0(s).size() : ((Kept) slots[s]).leads.size();
    }

    int times(int s, int i, int j) {
        if (!slot(s) || i < 0 || j < 0) {
            return BAD;
        }
        if (kind(s) != 1) {
            return kind(s) == 0 ? NULL : CAST;
        }
        TreeMap<Term, Integer> made = new TreeMap<>(FALLING);
        for (var e : poly0(s).entrySet()) {
            long x = (long) e.getKey().i + i;
            long y = (long) e.getKey().j + j;
            if (x > 2147483647L || y > 2147483647L) {
                return MUCH;
            }
            made.put(new Term((int) x, (int) y), e.getValue());
        }
        return settle(s, made);
    }

    int plus(int s, int t, int n) {
        if (!slot(s) || !slot(t) || !number(n)) {
            return BAD;
        }
        if (kind(s) == 0 || kind(t) == 0) {
            return NULL;
        }
        if (kind(s) == 2 || kind(t) == 2) {
            return CAST;
        }
        TreeMap<Term, Integer> made = new TreeMap<>(poly0(s));
        poly0(t).forEach((term, m) -> bring(made, term, (long) m * n));
        return settle(s, made);
    }

    int degree(int s) {
        if (!slot(s)) {
            return BAD;
        }
        if (kind(s) != 1) {
            return kind(s) == 0 ? NULL : CAST;
        }
        long most = poly0(s).keySet().stream().mapToLong(t -> (long) t.i + t.j).max().orElse(NONE);
        return most > 2147483647L ? MUCH : (int) most;
    }

    int leads(int s, int order) {
        if (!slot(s) || !order(order)) {
            return BAD;
        }
        if (kind(s) != 1) {
            return kind(s) == 0 ? NULL : CAST;
        }
        List<Term> terms = new ArrayList<>(poly0(s).keySet());
        if (terms.isEmpty()) {
            return NONE;
        }
        if (order >= 2 && terms.stream().anyMatch(t -> compared(order, u, v, t).compareTo(MOST) > 0)) {
            return MUCH;
        }
        return terms.indexOf(terms.stream().max(rising(order, u, v)).get());
    }

    private int[] vectorOfSlot(int s) {
        int[] sum = new int[a * b];
        poly0(s).forEach((t, n) -> {
            int[] vector = vectorOf(t.i, t.j);
            for (int k = 0; k < sum.length; k++) {
                sum[k] = mod(sum[k] + (long) n * vector[k]);
            }
        });
        return sum;
    }

    int reduce(int s, int order) {
        if (!slot(s) || !order(order)) {
            return BAD;
        }
        if (kind(s) != 1) {
            return kind(s) == 0 ? NULL : CAST;
        }
        int[] numbers = form(order, vectorOfSlot(s));
        TreeMap<Term, Integer> made = new TreeMap<>(FALLING);
        for (int k = 0; k < numbers.length; k++) {
            bring(made, found(order).stairs.get(k), numbers[k]);
        }
        return settle(s, made);
    }

    int belongs(int s) {
        if (!slot(s)) {
            return BAD;
        }
        if (kind(s) != 1) {
            return kind(s) == 0 ? NULL : CAST;
        }
        return Arrays.stream(vectorOfSlot(s)).allMatch(n -> n == 0) ? 1 : 0;
    }

    int stands(int s) {
        if (!slot(s)) {
            return BAD;
        }
        if (kind(s) != 2) {
            return kind(s) == 0 ? NULL : CAST;
        }
        Kept k = (Kept) slots[s];
        Found f = find(k.order, k.u, k.v);
        if (!f.leads.equals(k.leads)) {
            return 0;
        }
        for (int m = 0; m < f.tails.size(); m++) {
            if (!Arrays.equals(f.tails.get(m), k.tails.get(m))) {
                return 0;
            }
        }
        return 1;
    }

    int kept(int s, int what) {
        if (!slot(s) || what < 0 || what > 1) {
            return BAD;
        }
        if (kind(s) != 2) {
            return kind(s) == 0 ? NULL : CAST;
        }
        Kept k = (Kept) slots[s];
        return what == 0 ? k.order : 10 * k.u + k.v;
    }

    int image(int i) {
        if (i < 0 || i > 1) {
            return BAD;
        }
        images[i] = new State(p, a, b, u, v, c).copy();
        return a * b;
    }

    int goBack(int i) {
        if (i < 0 || i > 1) {
            return BAD;
        }
        if (images[i] == null) {
            return NOT;
        }
        State s = images[i].copy();
        p = s.p;
        a = s.a;
        b = s.b;
        u = s.u;
        v = s.v;
        c = s.c;
        moveSlots();
        changed();
        return a * b;
    }
}
