import java.lang.reflect.Constructor;
import java.lang.reflect.Field;
import java.lang.reflect.Method;
import java.lang.reflect.Modifier;
import java.nio.file.Files;
import java.nio.file.Path;
import java.util.ArrayList;
import java.util.List;
import java.util.Set;
import java.util.TreeSet;
import java.util.regex.Matcher;
import java.util.regex.Pattern;

/** The public face of the document and those rules of LANGUAGE.md that can be seen from outside. */
public final class FaceTest {
    private static final Path SOURCE = Path.of("src/main/java/OrderMover.java");
    private static final String METHODS = "field:1 system:2 put:4 get:3 weights:2 drift:1 count:1 base:2 member:3 "
            + "tail:3 stair:3 normal:4 table:4 place:3 least:2 root:2 poly:1 keepBase:2 drop:1 add:4 term:3 size:1 "
            + "times:3 plus:3 degree:1 leads:2 reduce:2 belongs:1 stands:1 kept:2 image:1 goBack:1";
    private static final String CONSTANTS = "BAD:-1 NOT:-2 FULL:-3 NONE:-4 NULL:-11 CAST:-12 MUCH:-13";
    private static final String FORBIDDEN = "throw throws try catch synchronized assert package Random Thread Object";
    private static final Set<String> IMPORTS = Set.of("java.util.ArrayList", "java.util.Arrays", "java.util.Iterator",
            "java.util.List");

    public static void main(String[] args) throws Exception {
        constants();
        methods();
        classesInside();
        forbiddenWords();
        shortMethods();
        Due.end();
    }

    private static void constants() throws Exception {
        Due.holds("the class is public and final",
                (OrderMover.class.getModifiers() & (Modifier.PUBLIC | Modifier.FINAL)) == (Modifier.PUBLIC | Modifier.FINAL));
        Set<String> want = new TreeSet<>(List.of(CONSTANTS.split(" ")));
        Set<String> got = new TreeSet<>();
        for (Field f : OrderMover.class.getDeclaredFields()) {
            if (!Modifier.isPrivate(f.getModifiers())) {
                got.add(f.getName() + ":" + f.getInt(null));
            }
            Due.holds("static " + f.getName() + " is final",
                    !Modifier.isStatic(f.getModifiers()) || Modifier.isFinal(f.getModifiers()));
        }
        Due.holds("constants are " + got, got.equals(want));
        Constructor<?>[] made = OrderMover.class.getDeclaredConstructors();
        Due.holds("one public constructor", made.length == 1 && Modifier.isPublic(made[0].getModifiers()));
    }

    private static void methods() {
        Set<String> want = new TreeSet<>(List.of(METHODS.split(" ")));
        Set<String> got = new TreeSet<>();
        List<String> hidden = new ArrayList<>();
        for (Method m : OrderMover.class.getDeclaredMethods()) {
            if (Modifier.isPrivate(m.getModifiers())) {
                hidden.add(m.getName());
            } else {
                got.add(m.getName() + ":" + m.getParameterCount());
                Due.holds(m.getName() + " answers an int", m.getReturnType() == int.class);
            }
        }
        Due.holds("methods are " + got, got.equals(want));
        for (String name : hidden) {
            Due.holds("private " + name + " bears no public name", !(" " + METHODS).contains(" " + name + ":"));
        }
    }

    private static void classesInside() {
        Class<?>[] inside = OrderMover.class.getDeclaredClasses();
        Due.holds("at most twelve classes", inside.length <= 12);
        for (Class<?> c : inside) {
            Due.holds(c + " is static and not public",
                    Modifier.isStatic(c.getModifiers()) && !Modifier.isPublic(c.getModifiers()));
            Due.holds(c + " has at most twenty fields", c.getDeclaredFields().length <= 20);
            for (Method m : c.getDeclaredMethods()) {
                Due.holds(m + " bears no public name", !(" " + METHODS).contains(" " + m.getName() + ":"));
                Due.holds(m + " takes at most seven", m.getParameterCount() <= 7);
            }
        }
    }

    private static void forbiddenWords() throws Exception {
        String text = Files.readString(SOURCE).replaceAll("(?s)/\\*.*?\\*/", " ").replaceAll("//[^\n]*", " ");
        for (String word : FORBIDDEN.split(" ")) {
            Matcher m = Pattern.compile("\\b" + word + "\\b").matcher(text);
            Due.holds("the class is without the word " + word, !m.find());
        }
        Matcher imports = Pattern.compile("\\bimport\\s+([\\w.*]+)").matcher(text);
        while (imports.find()) {
            Due.holds("import of " + imports.group(1), IMPORTS.contains(imports.group(1)));
        }
        Due.holds("no function whose name ends in Exact", !Pattern.compile("Exact\\s*\\(").matcher(text).find());
        Due.holds("the class is without arrows and method references", !text.contains("->") && !text.contains("::"));
    }

    /** A method begins at a line that ends in ") {" and is no statement, and ends at the next brace that stands as deep. */
    private static void shortMethods() throws Exception {
        List<String> lines = Files.readAllLines(SOURCE);
        Pattern head = Pattern.compile("( {4}| {8})(?!if|for|while|switch|\\})\\w.*\\) \\{");
        for (int k = 0; k < lines.size(); k++) {
            Matcher m = head.matcher(lines.get(k));
            if (m.matches()) {
                int end = lines.subList(k, lines.size()).indexOf(m.group(1) + "}");
                Due.holds(lines.get(k).strip() + " is short", end > 0 && end < 60);
            }
        }
    }
}
