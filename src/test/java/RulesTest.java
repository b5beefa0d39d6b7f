import java.io.IOException;
import java.lang.reflect.Array;
import java.lang.reflect.Constructor;
import java.lang.reflect.Field;
import java.lang.reflect.Method;
import java.lang.reflect.Modifier;
import java.nio.file.Files;
import java.nio.file.Path;
import java.util.ArrayList;
import java.util.Collections;
import java.util.IdentityHashMap;
import java.util.List;
import java.util.Set;
import java.util.TreeSet;

/** The rules of LANGUAGE.md that can be seen from the class and its text, and the document's face. */
public final class RulesTest {
    private static final Check CHECK = new Check();
    private static final Set<String> FACE = Set.of(
            "int feed(int,int,int,int,int)", "boolean end(int)", "int next(int)", "int form(int,int)",
            "int word(int)", "boolean street(int,int,int)", "int wall(int,int)", "int habit(int,int,int)",
            "int patterns()", "int fault()", "int scrawl(int,int,int)", "boolean photo(int)",
            "boolean drawing(int,int)", "int cost(int,int,int,int)", "int read(int,int)",
            "int octet(int) throws java.util.NoSuchElementException", "int reading(int,int,int)",
            "int used(int,int,int)", "int agree(int,int,int)", "int hand(int,int)",
            "int fact(int,int,int,int,int)", "int span(int,int,boolean)", "int laid(int,int,int,boolean)",
            "int spoilt(int)", "int persons(int,int)", "int person(int,int)", "int walk(int,int,int)",
            "int count(int)");

    public static void main(String[] args) throws IOException, IllegalAccessException {
        face();
        inside();
        text();
        room();
        CHECK.finish();
    }

    private static String signature(Method method) {
        List<String> types = new ArrayList<>();
        for (Class<?> type : method.getParameterTypes()) {
            types.add(type.getName());
        }
        StringBuilder text = new StringBuilder(method.getReturnType().getName()).append(' ');
        text.append(method.getName()).append('(').append(String.join(",", types)).append(')');
        for (Class<?> type : method.getExceptionTypes()) {
            text.append(" throws ").append(type.getName());
        }
        return text.toString();
    }

    private static void face() {
        Set<String> found = new TreeSet<>();
        for (Method method : ScrawlHouse.class.getDeclaredMethods()) {
            if (!Modifier.isPrivate(method.getModifiers())) {
                found.add(signature(method));
                CHECK.due(method + " is public", Modifier.isPublic(method.getModifiers()), true);
            }
        }
        CHECK.due("the face, found " + found, found.equals(FACE), true);
        CHECK.due("public final", Modifier.isPublic(ScrawlHouse.class.getModifiers())
                && Modifier.isFinal(ScrawlHouse.class.getModifiers()), true);
        Constructor<?>[] makers = ScrawlHouse.class.getDeclaredConstructors();
        CHECK.due("one constructor", makers.length, 1);
        CHECK.due("without parameters", makers[0].getParameterCount(), 0);
        for (Field field : ScrawlHouse.class.getDeclaredFields()) {
            boolean isNone = field.getName().equals("NONE");
            CHECK.due("field " + field.getName(), Modifier.isPrivate(field.getModifiers()), !isNone);
        }
    }

    private static void inside() {
        List<Class<?>> classes = new ArrayList<>(List.of(ScrawlHouse.class));
        classes.addAll(List.of(ScrawlHouse.class.getDeclaredClasses()));
        CHECK.due("twelve classes at most: " + classes.size(), classes.size() <= 12, true);
        for (Class<?> one : classes) {
            int fields = 0;
            for (Field field : one.getDeclaredFields()) {
                boolean isStatic = Modifier.isStatic(field.getModifiers());
                fields += isStatic ? 0 : 1;
                CHECK.due(field + " is final", !isStatic || Modifier.isFinal(field.getModifiers()), true);
            }
            CHECK.due("twenty fields at most in " + one + ": " + fields, fields <= 20, true);
            for (Method method : one.getDeclaredMethods()) {
                boolean hides = !Modifier.isPublic(method.getModifiers())
                        && FACE.stream().anyMatch(f -> f.contains(" " + method.getName() + "("));
                CHECK.due(method + " bears a public name", hides, false);
                CHECK.due(method + " has seven parameters at most", method.getParameterCount() <= 7, true);
            }
        }
    }

    private static void text() throws IOException {
        String text = Files.readString(Path.of("src/main/java/ScrawlHouse.java"));
        String[] refused = {"->", "::", "Exact(", "finally", "synchronized", "assert", "catch", "try {", "while (true",
            "for (;;", "System.nano", "System.current", "Random", "Thread", "Object", "hashCode", "equals(",
            "toString", "package ", "double", "float", "\t"};
        for (String one : refused) {
            CHECK.due("has '" + one + "'", text.contains(one), false);
        }
        for (int i = 0; i < text.length(); i++) {
            if (text.charAt(i) > 126) {
                CHECK.due("sign " + (int) text.charAt(i), true, false);
            }
        }
        int open = -1;
        String[] lines = text.split("\n");
        for (int i = 0; i < lines.length; i++) {
            if (lines[i].startsWith("import ")) {
                CHECK.due(lines[i], lines[i].equals("import java.util.Arrays;")
                        || lines[i].equals("import java.util.NoSuchElementException;"), true);
            }
            if (lines[i].matches(" {4,8}[A-Za-z].*\\) (throws \\w+ )?\\{")) {
                open = i;
            }
            if (open >= 0 && lines[i].matches(" {4,8}\\}")) {
                CHECK.due("sixty lines at most from line " + (open + 1), i - open <= 60, true);
                open = -1;
            }
        }
    }

    /**
     * All calls of a run have one room of 7.3 million elements and 600,000 objects: a house stays small,
     * even with PATTERNS that have as many states as can be and a SCRAWL of 24 PLACES.
     */
    private static void room() throws IllegalAccessException {
        ScrawlHouse x = new ScrawlHouse();
        String[] patterns = {"name?trade?office?thing?other?name;", "other?thing?office?trade?name?other;",
            "thing?name?other?trade?office?thing;", "trade?other?name?office?thing?trade;",
            "office?thing?trade?name?other?office;"};
        Tell.word(x, "a", 0);
        x.wall(0, 1);
        x.scrawl(0, 0, 24);
        StringBuilder text = new StringBuilder();
        for (String pattern : patterns) {
            text.append(pattern);
            CHECK.due("patterns '" + text + "'", Tell.patterns(x, text.toString()) > 0, true);
            CHECK.due("read", x.read(0, 0), 0);
        }
        Set<Object> seen = Collections.newSetFromMap(new IdentityHashMap<>());
        long elements = elementsOf(x, seen);
        CHECK.due("objects: " + seen.size(), seen.size() <= 200, true);
        CHECK.due("elements: " + elements, elements <= 100000, true);
    }

    private static long elementsOf(Object one, Set<Object> seen) throws IllegalAccessException {
        if (one == null || !seen.add(one)) {
            return 0;
        }
        if (one.getClass().isArray()) {
            return Array.getLength(one);
        }
        long sum = 0;
        for (Field field : one.getClass().getDeclaredFields()) {
            if (!Modifier.isStatic(field.getModifiers())) {
                field.setAccessible(true);
                sum += 1 + (field.getType().isPrimitive() ? 0 : elementsOf(field.get(one), seen));
            }
        }
        return sum;
    }
}
