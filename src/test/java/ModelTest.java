import java.lang.reflect.Method;
import java.util.ArrayList;
import java.util.List;
import java.util.Random;

/** Long runs of calls, drawn from fixed seeds, on the class and on the model: all answers are the same. */
public final class ModelTest {
    private static final int RUNS = 200, CALLS = 512;
    private static final int[] PRIMES = {2, 3, 5, 7, 11, 13, 89, 97};
    private static final int[] HIGH = {2147483647, 2147483646, 1073741824, 1073741823, 715827882, 238609294};
    private static final String[] CHANGES = {"field", "system", "weights", "drift", "image", "goBack"};

    private final Random draw;
    private final OrderMover mover = new OrderMover();
    private final Model model = new Model();
    private final List<String> trace = new ArrayList<>();

    private ModelTest(long seed) {
        draw = new Random(seed);
    }

    public static void main(String[] args) throws Exception {
        int runs = args.length > 0 ? Integer.parseInt(args[0]) : RUNS;
        int first = args.length > 1 ? Integer.parseInt(args[1]) : 0;
        for (int run = first; run < first + runs && Due.wrongSoFar() == 0; run++) {
            new ModelTest(run).go(run);
        }
        Due.end();
    }

    private void go(int run) throws Exception {
        List<Method> calls = new ArrayList<>();
        for (Method m : OrderMover.class.getDeclaredMethods()) {
            if (java.lang.reflect.Modifier.isPublic(m.getModifiers())) {
                calls.add(m);
            }
        }
        calls.sort((m, n) -> m.getName().compareTo(n.getName()));
        for (int k = 0; k < CALLS && Due.wrongSoFar() == 0; k++) {
            Method m = calls.get(draw.nextInt(calls.size()));
            if (List.of(CHANGES).contains(m.getName()) && draw.nextInt(3) > 0) {
                continue;
            }
            Object[] with = arguments(m);
            Method same = Model.class.getDeclaredMethod(m.getName(), m.getParameterTypes());
            int want = (Integer) same.invoke(model, with);
            int got = (Integer) m.invoke(mover, with);
            String call = m.getName() + java.util.Arrays.toString(with);
            trace.add(call + " = " + want);
            Due.due("run " + run + ", call " + k + ": " + call, got, want);
            if (got != want) {
                System.out.println(String.join("\n", trace));
            }
        }
    }

    private int below(int n) {
        return draw.nextInt(n);
    }

    /** Mostly what is allowed, sometimes one beside it, seldom anything. */
    private int about(int low, int high) {
        int chance = below(60);
        if (chance == 0) {
            return draw.nextInt();
        }
        if (chance == 1) {
            return low - 1;
        }
        if (chance == 2) {
            return high + 1;
        }
        return low + below(high - low + 1);
    }

    private int power() {
        int chance = below(20);
        return chance == 0 ? HIGH[below(HIGH.length)] : chance == 1 ? below(2147483647) : about(0, 5);
    }

    private int number() {
        return about(0, mover.count(0) - 1);
    }

    private int stairNumber() {
        return about(0, mover.count(3) - 1);
    }

    private Object[] arguments(Method m) {
        switch (m.getName()) {
            case "field": return new Object[] {below(8) == 0 ? about(0, 100) : PRIMES[below(PRIMES.length)]};
            case "system": return new Object[] {about(1, 3), about(1, 3)};
            case "put": return new Object[] {about(0, 1), about(0, 2), about(0, 2), number()};
            case "get": return new Object[] {about(0, 1), about(0, 2), about(0, 2)};
            case "weights": return new Object[] {about(1, 9), about(1, 9)};
            case "drift": return new Object[] {about(1, 999999)};
            case "count": return new Object[] {about(0, 10)};
            case "base": return new Object[] {about(0, 4), about(0, 2)};
            case "member": return new Object[] {about(0, 4), about(0, 3), about(0, 2)};
            case "tail": return new Object[] {about(0, 4), about(0, 3), stairNumber()};
            case "stair": return new Object[] {about(0, 4), stairNumber(), about(0, 1)};
            case "normal": return new Object[] {about(0, 4), power(), power(), stairNumber()};
            case "table": return new Object[] {about(0, 4), about(0, 1), stairNumber(), stairNumber()};
            case "place": return new Object[] {about(0, 4), power(), power()};
            case "least": return new Object[] {about(0, 1), about(-1, 9)};
            case "root": return new Object[] {about(0, 4), about(0, 1)};
            case "poly":
            case "drop": return new Object[] {about(0, 8) % 5};
            case "size":
            case "degree":
            case "belongs":
            case "stands": return new Object[] {about(0, 3)};
            case "keepBase": return new Object[] {about(0, 3), about(0, 4)};
            case "add": return new Object[] {about(0, 3), number(), power(), power()};
            case "term": return new Object[] {about(0, 3), about(0, 8), about(0, 2)};
            case "times": return new Object[] {about(0, 3), power(), power()};
            case "plus": return new Object[] {about(0, 3), about(0, 3), number()};
            case "leads":
            case "reduce": return new Object[] {about(0, 3), about(0, 4)};
            case "kept": return new Object[] {about(0, 3), about(0, 1)};
            case "image":
            case "goBack": return new Object[] {about(0, 1)};
            default: throw new IllegalStateException(m.getName());
        }
    }
}
