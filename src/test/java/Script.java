import java.lang.reflect.InvocationTargetException;
import java.lang.reflect.Method;
import java.util.ArrayList;
import java.util.List;
import java.util.Map;
import java.util.Set;
import java.util.regex.Matcher;
import java.util.regex.Pattern;

/**
 * A sentence of the document and rows of calls on a new object, each with the answer that is due, such as
 * "put(0, 0, 0, 7) = BAD". The model must say the same. A row that is refused, or finds something, or only
 * asks, must change nothing: all that can be seen is the same with the row and without it.
 */
final class Script {
    /** Rows that put 1 + x + .. + x to the 7 into slot 0. */
    static final String EIGHT_TERMS = """
            poly(0) = 0
            add(0, 1, 0, 0) = 1; add(0, 1, 1, 0) = 2; add(0, 1, 2, 0) = 3; add(0, 1, 3, 0) = 4
            add(0, 1, 4, 0) = 5; add(0, 1, 5, 0) = 6; add(0, 1, 6, 0) = 7; add(0, 1, 7, 0) = 8
            """;

    private static final int MOST_CALLS = 512;
    private static final Pattern ROW = Pattern.compile("(\\w+)\\(([^)]*)\\) = (-?\\w+)");
    private static final Map<String, Integer> WORDS = Map.of("BAD", -1, "NOT", -2, "FULL", -3, "NONE", -4,
            "NULL", -11, "CAST", -12, "MUCH", -13, "HIGHEST", Integer.MAX_VALUE, "LOWEST", Integer.MIN_VALUE);
    private static final Set<String> ASKING = Set.of("get", "count", "base", "member", "tail", "stair", "normal",
            "table", "place", "least", "root", "term", "size", "degree", "leads", "belongs", "stands", "kept");

    private record Row(String name, Object[] with, int due) {
        String told() {
            return name + java.util.Arrays.toString(with);
        }
    }

    private final String sentence;
    private final List<Row> rows = new ArrayList<>();

    private Script(String sentence, String text) {
        this.sentence = sentence;
        for (String line : text.split("[;\n]")) {
            if (!line.isBlank()) {
                rows.add(parse(line.strip()));
            }
        }
        Due.holds(sentence + ": the script is short enough", rows.size() + State.MOST_CALLS <= MOST_CALLS);
    }

    static void run(String sentence, String text) {
        new Script(sentence, text).go();
    }

    private static Row parse(String line) {
        Matcher m = ROW.matcher(line);
        if (!m.matches()) {
            throw new IllegalArgumentException("no row: " + line);
        }
        List<Object> with = new ArrayList<>();
        for (String word : m.group(2).split(",")) {
            with.add(number(word.strip()));
        }
        return new Row(m.group(1), with.toArray(), number(m.group(3)));
    }

    private static int number(String word) {
        return WORDS.containsKey(word) ? WORDS.get(word) : Integer.parseInt(word);
    }

    private void go() {
        OrderMover mover = new OrderMover();
        Model model = new Model();
        for (int k = 0; k < rows.size(); k++) {
            Row row = rows.get(k);
            String told = sentence + ": row " + (k + 1) + ", " + row.told();
            Due.due(told, answer(mover, row), row.due);
            Due.due(told + " of the model", answer(model, row), row.due);
            if (row.due < 0 || ASKING.contains(row.name)) {
                changesNothing(told, k);
            }
        }
    }

    private void changesNothing(String told, int k) {
        for (int part = 0; part < State.PARTS; part++) {
            String without = State.part(made(k), part);
            String with = State.part(made(k + 1), part);
            Due.holds(told + " changes nothing; it was" + without + ", it is" + with, with.equals(without));
        }
    }

    /** A new object behind the first rows. */
    private OrderMover made(int howMany) {
        OrderMover mover = new OrderMover();
        for (Row row : rows.subList(0, howMany)) {
            answer(mover, row);
        }
        return mover;
    }

    /** What the call throws is thrown on, since no call may throw. */
    private static int answer(Object on, Row row) {
        Class<?>[] types = new Class<?>[row.with.length];
        java.util.Arrays.fill(types, int.class);
        try {
            Method method = on.getClass().getDeclaredMethod(row.name, types);
            return (Integer) method.invoke(on, row.with);
        } catch (InvocationTargetException e) {
            throw new IllegalStateException(row.told() + " threw " + e.getCause(), e);
        } catch (ReflectiveOperationException e) {
            throw new IllegalStateException("no such call: " + row.told(), e);
        }
    }
}
