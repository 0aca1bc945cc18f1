import java.lang.reflect.Method;
import java.nio.file.Files;
import java.nio.file.Path;
import java.util.Arrays;
import java.util.regex.Matcher;
import java.util.regex.Pattern;

/** Each row of README.md that calls m has the answer that its comment begins with. */
public final class ReadmeTest {
    private static final Pattern ROW = Pattern.compile("m\\.(\\w+)\\(([^)]*)\\); +// (-?\\d+)(:.*)?");
    private static final int ROWS = 35;

    public static void main(String[] args) throws Exception {
        OrderMover mover = new OrderMover();
        int rows = 0;
        for (String line : Files.readAllLines(Path.of("README.md"))) {
            if (line.startsWith("m.")) {
                Matcher row = ROW.matcher(line);
                Due.holds("a row with an answer: " + line, row.matches());
                Due.due(line, answer(mover, row.group(1), row.group(2)), Integer.parseInt(row.group(3)));
                rows++;
            }
        }
        Due.due("rows", rows, ROWS);
        Due.end();
    }

    private static int answer(OrderMover mover, String name, String numbers) throws Exception {
        Object[] with = Arrays.stream(numbers.split(", ")).map(Integer::valueOf).toArray();
        Class<?>[] types = new Class<?>[with.length];
        Arrays.fill(types, int.class);
        Method method = OrderMover.class.getMethod(name, types);
        return (Integer) method.invoke(mover, with);
    }
}
