import java.io.IOException;
import java.lang.reflect.Array;
import java.lang.reflect.Constructor;
import java.lang.reflect.Field;
import java.lang.reflect.Method;
import java.lang.reflect.Modifier;
import java.nio.file.Files;
import java.nio.file.Path;
import java.util.Arrays;
import java.util.List;
import java.util.Map;
import java.util.Set;
import java.util.TreeMap;
import java.util.TreeSet;
import java.util.regex.Matcher;
import java.util.regex.Pattern;
import java.util.stream.Collectors;

/** The public face, to the letter, and those rules of ../shared/LANGUAGE.md that can be seen from outside. */
public final class FaceTest {
    private static final String SOURCE = "src/main/java/FurnitureByFlood.java";
    private static final List<String> FACE = List.of(
        "int write(int,long)", "int wipe()", "int fault()", "int town()", "int about(int)", "int house(int,int)",
        "int stream(int,int)", "int piece(int,int)", "int owner(int,int)", "int tie(int,int)", "int carry(int,int)",
        "int shut(int,boolean)", "int deep(int,int)", "int hour(int)", "int jams(int)", "int spring()", "int undo()",
        "int after(int,int,int)", "int ties(int,int,int,boolean)", "int dowry(int,int,int,int)",
        "int toShut(int,int,int)", "long drawn(int,int,int,int,boolean)", "int goesFrom(int)", "int mark(int,int)",
        "int unmark()", "long rows(int,int)", "int ends(int,int)", "int keep(int)", "int again(int)");
    private static final Pattern METHOD = Pattern.compile(
        "( {4}| {8})(?:(?:public|private|static) )*(?:int|long|boolean|void) (\\w+)\\(.*\\) \\{");
    private static final Pattern CALLED = Pattern.compile("\\b(\\w+)\\(");
    private static final List<String> CONSTANTS = List.of("UNKNOWN", "BAD", "LATE", "FULL", "NONE");

    public static void main(String[] args) throws IOException {
        face();
        classesInside();
        String text = Files.readString(Path.of(SOURCE));
        source(text);
        methods(text);
        noneMakesObjects(text);
        oneObjectIsSmall();
        Check.end();
    }

    private static void face() {
        Class<?> c = FurnitureByFlood.class;
        Check.holds("it is public and final",
            (c.getModifiers() & (Modifier.PUBLIC | Modifier.FINAL)) == (Modifier.PUBLIC | Modifier.FINAL));
        Check.holds("it has no package", c.getPackageName().isEmpty());
        Check.holds("it extends nothing", c.getSuperclass() == Object.class && c.getInterfaces().length == 0);
        Set<String> open = new TreeSet<>();
        for (Method m : c.getDeclaredMethods()) {
            if (!Modifier.isPrivate(m.getModifiers())) {
                open.add(told(m));
                Check.holds(m + " is public", Modifier.isPublic(m.getModifiers()));
                Check.holds(m + " is not static", !Modifier.isStatic(m.getModifiers()));
            }
        }
        Check.holds("its methods are those of the document, not " + open, open.equals(new TreeSet<>(FACE)));
        Set<String> fields = new TreeSet<>();
        for (Field f : c.getDeclaredFields()) {
            int is = f.getModifiers();
            Check.holds(f + " is final if it is static", !Modifier.isStatic(is) || Modifier.isFinal(is));
            if (!Modifier.isPrivate(is)) {
                fields.add(f.getName());
                Check.holds(f + " is a public constant", Modifier.isPublic(is) && Modifier.isStatic(is));
                Check.holds(f + " is an int", f.getType() == int.class);
            }
        }
        Check.holds("its constants are those of the document, not " + fields,
            fields.equals(new TreeSet<>(CONSTANTS)));
        Constructor<?>[] made = c.getDeclaredConstructors();
        Check.holds("it is made by one public constructor without arguments", made.length == 1
            && made[0].getParameterCount() == 0 && Modifier.isPublic(made[0].getModifiers()));
    }

    private static String told(Method m) {
        String of = Arrays.stream(m.getParameterTypes()).map(Class::getName).collect(Collectors.joining(","));
        return m.getReturnType().getName() + " " + m.getName() + "(" + of + ")";
    }

    private static void classesInside() {
        Set<String> names = FACE.stream()
            .map(m -> m.substring(m.indexOf(' ') + 1, m.indexOf('('))).collect(Collectors.toSet());
        Class<?>[] inside = FurnitureByFlood.class.getDeclaredClasses();
        Check.holds("it has some twelve classes at most", inside.length <= 12);
        long own = Arrays.stream(FurnitureByFlood.class.getDeclaredFields())
            .filter(f -> !Modifier.isStatic(f.getModifiers())).count();
        Check.holds("it has some twenty fields at most", own <= 20);
        for (Method m : FurnitureByFlood.class.getDeclaredMethods()) {
            Check.holds(m + " has seven parameters at most", m.getParameterCount() <= 7);
            Check.holds(m + " bears no name of a public one",
                !Modifier.isPrivate(m.getModifiers()) || !names.contains(m.getName()));
        }
        for (Class<?> c : inside) {
            int is = c.getModifiers();
            Check.holds(c + " is static", Modifier.isStatic(is));
            Check.holds(c + " is private or package-visible", !Modifier.isPublic(is) && !Modifier.isProtected(is));
            Check.holds(c + " has some twenty fields at most", c.getDeclaredFields().length <= 20);
            for (Method m : c.getDeclaredMethods()) {
                Check.holds(m + " bears no name of a public one", !names.contains(m.getName()));
                Check.holds(m + " has seven parameters at most", m.getParameterCount() <= 7);
            }
            for (Field f : c.getDeclaredFields()) {
                Check.holds(f + " is final if it is static",
                    !Modifier.isStatic(f.getModifiers()) || Modifier.isFinal(f.getModifiers()));
            }
        }
    }

    private static void source(String text) {
        String bare = text.replaceAll("(?s)/\\*.*?\\*/", " ").replaceAll("//[^\n]*", " ");
        String words = "throw|throws|try|catch|finally|synchronized|assert|import|package|volatile|transient|native"
            + "|strictfp|protected|yield|Object|Thread|Runtime|hashCode|toString";
        Check.holds("no word that the language does not have: " + found(bare, "\\b(" + words + ")\\b"),
            found(bare, "\\b(" + words + ")\\b").isEmpty());
        Check.holds("no lambda, no method reference", found(bare, "->|::").isEmpty());
        Check.holds("no *Exact", found(bare, "\\w+Exact\\b").isEmpty());
        Check.holds("no sign beyond 127", text.chars().allMatch(sign -> sign < 128));
        Check.holds("no line is longer than 120", text.lines().allMatch(line -> line.length() <= 120));
    }

    /** By their names alone: those of one name count as one method, so that no chain is taken for a shorter one. */
    private static void methods(String text) {
        Map<String, Set<String>> called = new TreeMap<>();
        String[] lines = text.split("\n");
        for (int i = 0; i < lines.length; i++) {
            Matcher head = METHOD.matcher(lines[i]);
            if (head.matches()) {
                int end = i;
                while (!lines[end].equals(head.group(1) + "}")) {
                    end++;
                }
                Check.holds(head.group(2) + " has some sixty lines at most", end - i <= 60);
                String body = String.join("\n", Arrays.asList(lines).subList(i + 1, end));
                Set<String> names = called.computeIfAbsent(head.group(2), name -> new TreeSet<>());
                CALLED.matcher(body).results().forEach(r -> names.add(r.group(1)));
            }
        }
        Check.holds("all methods of the face are found", called.size() >= FACE.size());
        for (String name : called.keySet()) {
            int deep = depth(name, called, 0);
            Check.holds(name + " calls itself, or goes deeper than eight: " + deep, deep <= 8);
        }
    }

    /** How many calls stand open at once at most; beyond twenty it is taken for one that calls itself. */
    private static int depth(String name, Map<String, Set<String>> called, int above) {
        int deepest = 0;
        for (String other : called.get(name)) {
            if (called.containsKey(other) && above < 20) {
                deepest = Math.max(deepest, depth(other, called, above + 1));
            }
        }
        return 1 + deepest;
    }

    /** All rows are made with the object: 'new' stands in what fields begin with and in constructors alone. */
    private static void noneMakesObjects(String text) {
        String method = "";
        for (String line : text.split("\n")) {
            Matcher head = METHOD.matcher(line);
            if (head.matches()) {
                method = head.group(2);
            } else if (line.matches("( {4}| {8})\\}")) {
                method = "";
            }
            boolean isComment = line.strip().startsWith("/") || line.strip().startsWith("*");
            boolean makes = !isComment && line.matches(".*\\bnew\\b.*");
            Check.holds(method + " makes an object: " + line, !makes || method.isEmpty());
        }
    }

    /** Also 512 objects of one run must have room: 600,000 objects and arrays, 7.3 million fields and elements. */
    private static void oneObjectIsSmall() {
        long[] counts = new long[2];
        count(new FurnitureByFlood(), counts);
        Check.holds("512 times " + counts[0] + " objects and arrays are too many", counts[0] * 512 < 600_000 / 2);
        Check.holds("512 times " + counts[1] + " fields and elements are too many", counts[1] * 512 < 7_300_000 / 2);
    }

    private static void count(Object of, long[] counts) {
        counts[0]++;
        if (of.getClass().isArray()) {
            int length = Array.getLength(of);
            counts[1] += length;
            for (int i = 0; i < length && !of.getClass().getComponentType().isPrimitive(); i++) {
                count(Array.get(of, i), counts);
            }
            return;
        }
        for (Field f : of.getClass().getDeclaredFields()) {
            if (!Modifier.isStatic(f.getModifiers())) {
                counts[1]++;
                if (!f.getType().isPrimitive()) {
                    count(value(f, of), counts);
                }
            }
        }
    }

    private static Object value(Field f, Object of) {
        try {
            f.setAccessible(true);
            return f.get(of);
        } catch (IllegalAccessException thrown) {
            throw new IllegalStateException(thrown);
        }
    }

    private static String found(String text, String pattern) {
        return Pattern.compile(pattern).matcher(text).results().map(r -> r.group()).collect(Collectors.joining(" "));
    }
}
