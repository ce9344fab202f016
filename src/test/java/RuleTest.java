import java.lang.reflect.Array;
import java.lang.reflect.Field;
import java.lang.reflect.Method;
import java.lang.reflect.Modifier;
import java.nio.file.Files;
import java.nio.file.Path;
import java.util.ArrayDeque;
import java.util.ArrayList;
import java.util.Arrays;
import java.util.Collections;
import java.util.IdentityHashMap;
import java.util.List;
import java.util.Map;
import java.util.Set;
import java.util.TreeMap;
import java.util.TreeSet;
import java.util.regex.Matcher;
import java.util.regex.Pattern;

/** What LANGUAGE.md asks of the source and of the room, as far as a test can see it. */
public final class RuleTest {
    private static final Check CHECK = new Check("RuleTest");
    private static final Path SOURCE = Path.of("src/main/java/EightBlocks.java");

    public static void main(String[] args) throws Exception {
        face();
        nested();
        String source = withoutComments(Files.readString(SOURCE));
        words(source);
        lengths(source);
        depths(source);
        room();
        calls();
        CHECK.end();
    }

    /** The constants, the constructor and the methods of the document, and no others. */
    private static void face() throws Exception {
        Set<String> wanted = new TreeSet<>();
        String document = Files.readString(Path.of("../shared/DOC.md"));
        String face = document.substring(document.indexOf("```java"), document.indexOf("## Description"));
        Matcher matcher = Pattern.compile("public int (\\w+)\\(([^)]*)\\);").matcher(face);
        while (matcher.find()) {
            wanted.add(matcher.group(1) + "(" + matcher.group(2).replaceAll(" \\w+(, |$)", "$1") + ")");
        }
        CHECK.due("methods in the document", wanted.size(), 31);
        Set<String> names = new TreeSet<>();
        Set<String> found = new TreeSet<>();
        for (Method method : EightBlocks.class.getDeclaredMethods()) {
            if (Modifier.isPublic(method.getModifiers())) {
                found.add(method.getName() + "(" + String.join(", ",
                    Arrays.stream(method.getParameterTypes()).map(Class::getName).toList()) + ")");
                names.add(method.getName());
                CHECK.due(method + " returns int", method.getReturnType() == int.class ? 1 : 0, 1);
            }
        }
        CHECK.due("the methods " + found, found.equals(wanted) ? 1 : 0, 1);
        for (Method method : EightBlocks.class.getDeclaredMethods()) {
            boolean isPrivate = Modifier.isPrivate(method.getModifiers());
            CHECK.due(method + " is public or private", isPrivate || Modifier.isPublic(method.getModifiers()) ? 1 : 0, 1);
            CHECK.due(method + " has a public one's name", isPrivate && names.contains(method.getName()) ? 1 : 0, 0);
        }
        Matcher constants = Pattern.compile("([A-Z]+) = (-\\d+)").matcher(face);
        int number = 0;
        while (constants.find()) {
            number++;
            int value = EightBlocks.class.getField(constants.group(1)).getInt(null);
            CHECK.due(constants.group(1), value, Long.parseLong(constants.group(2)));
        }
        CHECK.due("public fields", EightBlocks.class.getFields().length, number);
        CHECK.due("constructors", EightBlocks.class.getDeclaredConstructors().length, 1);
        CHECK.due("final", Modifier.isFinal(EightBlocks.class.getModifiers()) ? 1 : 0, 1);
        for (Class<?> inner : EightBlocks.class.getDeclaredClasses()) {
            for (Method method : inner.getDeclaredMethods()) {
                CHECK.due(method + " has a public one's name", names.contains(method.getName()) ? 1 : 0, 0);
            }
        }
    }

    private static void nested() {
        Class<?>[] classes = EightBlocks.class.getDeclaredClasses();
        CHECK.due("at most twelve classes", classes.length <= 11 ? 1 : 0, 1);
        for (Class<?> inner : classes) {
            CHECK.due(inner + " is static", Modifier.isStatic(inner.getModifiers()) ? 1 : 0, 1);
            int fields = 0;
            for (Field field : inner.getDeclaredFields()) {
                fields += Modifier.isStatic(field.getModifiers()) ? 0 : 1;
                boolean isState = Modifier.isStatic(field.getModifiers()) && !Modifier.isFinal(field.getModifiers());
                CHECK.due(field + " is static state", isState ? 1 : 0, 0);
            }
            CHECK.due("fields of " + inner, fields <= 20 ? 1 : 0, 1);
            for (Method method : inner.getDeclaredMethods()) {
                CHECK.due(method + " has too many parameters", method.getParameterCount() > 7 ? 1 : 0, 0);
            }
        }
    }

    private static String withoutComments(String source) {
        return source.replaceAll("(?s)/\\*.*?\\*/", "").replaceAll("//[^\n]*", "");
    }

    private static void words(String source) {
        String[] forbidden = {"\\bthrow\\b", "\\bthrows\\b", "\\btry\\b", "\\bcatch\\b", "\\bfinally\\b",
            "\\bsynchronized\\b", "\\bassert\\b", "\\bvolatile\\b", "\\bnative\\b", "->", "::", "\\bstatic\\s*\\{",
            "\\bprotected\\b", "\\bpackage\\b", "\\bObject\\b", "\\bSystem\\.(?!arraycopy)", "\\bThread\\b", "\\bRandom\\b",
            "\\bMath\\.\\w+Exact\\b", "\\bDouble\\b", "\\bLong\\.valueOf\\b", "\\bhashCode\\b", "\\btoString\\b",
            "\\bwhile\\s*\\(true\\)", "\\bfor\\s*\\(;;\\)", "[^\\x00-\\x7f]"};
        for (String word : forbidden) {
            CHECK.due(word + " in the source", Pattern.compile(word).matcher(source).find() ? 1 : 0, 0);
        }
        Matcher imports = Pattern.compile("import ([\\w.]+);").matcher(source);
        while (imports.find()) {
            CHECK.due("import " + imports.group(1), imports.group(1).equals("java.util.Arrays") ? 1 : 0, 1);
        }
        Matcher library = Pattern.compile("\\b(Arrays|Math|Integer|System)\\.(\\w+)").matcher(source);
        Set<String> allowed = Set.of("Arrays.fill", "Math.floorMod", "Math.min", "Math.max", "Integer.bitCount",
            "System.arraycopy");
        while (library.find()) {
            CHECK.due(library.group(), allowed.contains(library.group()) ? 1 : 0, 1);
        }
    }

    /** No method is longer than some sixty lines. */
    private static void lengths(String source) {
        String[] lines = source.split("\n");
        int start = -1;
        String end = null;
        for (int k = 0; k < lines.length; k++) {
            if (start < 0 && lines[k].matches(" {4,8}\\S.*\\) \\{") && !lines[k].contains(" class ")) {
                start = k;
                end = lines[k].replaceAll("\\S.*", "") + "}";
            } else if (start >= 0 && lines[k].equals(end)) {
                CHECK.due("lines of " + lines[start], k - start + 1 <= 60 ? 1 : 0, 1);
                start = -1;
            }
        }
        CHECK.due("all methods end", start, -1);
    }

    /** Calls go at most eight deep; those that come back to an open method are not counted again. */
    private static void depths(String source) {
        Map<String, String> bodies = new TreeMap<>();
        String head = "^( {4}| {8})\\w[\\w \\[\\]]*?(\\w+)\\([^()]*\\) \\{$";
        Matcher method = Pattern.compile("(?ms)" + head + "(.*?)^\\1\\}$").matcher(source);
        while (method.find()) {
            bodies.merge(method.group(2), method.group(3), String::concat);
        }
        CHECK.due("methods are found", bodies.size() > 100 ? 1 : 0, 1);
        for (String name : bodies.keySet()) {
            List<String> deepest = deepest(name, bodies, new ArrayList<>());
            CHECK.due("calls from " + deepest, deepest.size() <= 8 ? 1 : 0, 1);
        }
    }

    private static List<String> deepest(String name, Map<String, String> bodies, List<String> open) {
        open.add(name);
        List<String> deepest = new ArrayList<>(open);
        Matcher call = Pattern.compile("(\\w+)\\(").matcher(bodies.get(name));
        while (call.find()) {
            if (bodies.containsKey(call.group(1)) && !open.contains(call.group(1))) {
                List<String> deeper = deepest(call.group(1), bodies, open);
                deepest = deeper.size() > deepest.size() ? deeper : deepest;
            }
        }
        open.remove(open.size() - 1);
        return deepest;
    }

    /** What an object consists of: all must fit in the room of a run. */
    private static void room() throws Exception {
        Set<Object> seen = Collections.newSetFromMap(new IdentityHashMap<>());
        ArrayDeque<Object> open = new ArrayDeque<>();
        open.add(new EightBlocks());
        long elements = 0;
        while (!open.isEmpty()) {
            Object object = open.poll();
            if (!seen.add(object)) {
                continue;
            }
            if (object.getClass().isArray()) {
                elements += Array.getLength(object);
                for (int k = 0; k < Array.getLength(object) && object instanceof Object[]; k++) {
                    open.add(Array.get(object, k));
                }
                continue;
            }
            for (Field field : object.getClass().getDeclaredFields()) {
                if (!Modifier.isStatic(field.getModifiers())) {
                    elements++;
                    field.setAccessible(true);
                    if (!field.getType().isPrimitive()) {
                        open.add(field.get(object));
                    }
                }
            }
        }
        System.out.println("RuleTest: an object is " + seen.size() + " objects and arrays, " + elements + " elements");
        CHECK.due("few objects", seen.size() < 2000 ? 1 : 0, 1);
        CHECK.due("few elements", elements < 80000 ? 1 : 0, 1);
    }

    /** The calls make no objects at all. */
    private static void calls() {
        com.sun.management.ThreadMXBean threads =
            (com.sun.management.ThreadMXBean) java.lang.management.ManagementFactory.getThreadMXBean();
        everyCall(new EightBlocks());
        EightBlocks[] objects = {new EightBlocks(), new EightBlocks(), new EightBlocks(), new EightBlocks()};
        long id = Thread.currentThread().getId();
        long before = threads.getThreadAllocatedBytes(id);
        for (EightBlocks blocks : objects) {
            // Some 90 calls each time: an object is used for at most 512.
            for (int k = 0; k < 5; k++) {
                everyCall(blocks);
            }
        }
        long bytes = threads.getThreadAllocatedBytes(id) - before;
        System.out.println("RuleTest: some 1700 calls made " + bytes + " bytes");
        CHECK.due("calls make nothing", bytes < 4000 ? 1 : 0, 1);
    }

    private static void everyCall(EightBlocks x) {
        x.image();
        for (int what = 0; what < 8; what++) {
            x.word(12345, what);
            x.met(12345, what);
            x.told(3, what);
            x.group(15, what);
            x.held(15, x.count(0), what);
            x.sextet(15, what);
        }
        x.block(2, 5);
        x.complete(31);
        x.both(15, 51);
        x.letter(0, 5);
        x.sent(0, 77);
        x.holds(7, 3);
        x.choose(x.block(2, 5));
        x.hexad(31);
        x.turn(0, 1);
        x.pair(63);
        x.drift(40);
        x.undo();
        x.seed(5);
        x.restore();
        x.type('[');
        x.type('o');
        x.type('v');
        x.type('e');
        x.type('r');
        x.type(']');
        x.type('^');
        x.type('9');
        x.type('9');
        x.read(2);
        x.sheet(0, 0, 32);
        x.sheet(1, 0, 32);
        x.film(1, 0, 0, 2);
        x.item(0, 0, 1, 1);
        x.copy(0, 0, 1, 2, 20);
        x.retrace(15, 0, 0, 0, 8);
        x.drop(1);
        x.restore();
    }
}
