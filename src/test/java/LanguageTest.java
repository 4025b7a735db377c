import java.lang.management.ManagementFactory;
import java.lang.reflect.Field;
import java.lang.reflect.Method;
import java.lang.reflect.Modifier;
import java.nio.file.Files;
import java.nio.file.Path;
import java.util.ArrayList;
import java.util.Arrays;
import java.util.List;
import java.util.Set;
import java.util.regex.Matcher;
import java.util.regex.Pattern;

/** The rules of LANGUAGE.md that can be seen from the source, from the class file, or from the room it takes. */
public final class LanguageTest {
    private static final Set<String> LIBRARY = Set.of(
        "Integer.compare", "Integer.max", "Integer.min", "Integer.bitCount", "Long.compare", "Long.max",
        "Long.min", "Long.bitCount", "Math.max", "Math.min", "Math.abs", "Math.floorDiv", "Math.floorMod",
        "Arrays.copyOf", "Arrays.copyOfRange", "Arrays.fill", "System.arraycopy");
    private static final Set<Class<?>> NUMBERS = Set.of(
        int.class, long.class, short.class, byte.class, char.class, boolean.class);
    private static final Set<Class<?>> STATIC_ROWS = Set.of(int[].class, long[].class, char[].class, byte[].class);
    private static final int MOST_PARAMETERS = 7;
    private static final int MOST_LINES = 60;
    private static final int MOST_CLASSES = 12;
    private static final int MOST_FIELDS = 20;
    private static final Check CHECK = new Check();

    public static void main(String[] args) throws Exception {
        String source = sourceWithoutComments();
        oneFile(source);
        noHiddenClasses(source);
        types(source);
        library(source);
        staticFields(source);
        barredWords(source);
        shortEnough(source);
        room();
        CHECK.end("LanguageTest");
    }

    /** The class and all that are inside it. */
    static List<Class<?>> classes() {
        List<Class<?>> found = new ArrayList<>();
        found.add(DrawBench.class);
        for (int i = 0; i < found.size(); i++) {
            found.addAll(Arrays.asList(found.get(i).getDeclaredClasses()));
        }
        return found;
    }

    private static String sourceWithoutComments() throws Exception {
        return Files.readString(Path.of("src/main/java/DrawBench.java"))
            .replaceAll("(?s)/\\*.*?\\*/", "").replaceAll("//.*", "");
    }

    private static void none(String source, String pattern) {
        Matcher found = Pattern.compile(pattern).matcher(source);
        CHECK.due(pattern + " in the source", found.find() ? found.group() : "", "");
    }

    private static void oneFile(String source) throws Exception {
        CHECK.language("# The Java that the program keeps to",
            "The program is one file, src/main/java/DrawBench.java, without a package line");
        try (var files = Files.list(Path.of("src/main/java"))) {
            CHECK.due("files", files.count(), 1);
        }
        none(source, "\\bpackage\\b");
    }

    private static void noHiddenClasses(String source) {
        CHECK.rule(2, "No inner class that isn't static, no local or anonymous class, no lambda, "
            + "no method reference.");
        none(source, "->");
        none(source, "::");
        none(source, "new \\w+\\([^;]*\\) *\\{");
        for (Class<?> one : classes()) {
            boolean isInside = one != DrawBench.class;
            CHECK.due(one + " is static", Modifier.isStatic(one.getModifiers()), isInside);
        }
    }

    private static void types(String source) {
        CHECK.rule(3, "arrays of these and of your own classes, of one dimension");
        none(source, "\\b(double|float|Object|var)\\b");
        for (Class<?> one : classes()) {
            for (Field field : one.getDeclaredFields()) {
                CHECK.due("a type as told has " + field, isTold(field.getType()), true);
            }
            for (Method method : one.getDeclaredMethods()) {
                boolean tellsNothing = method.getReturnType() == void.class;
                CHECK.due("as told answers " + method, tellsNothing || isTold(method.getReturnType()), true);
                for (Class<?> type : method.getParameterTypes()) {
                    CHECK.due("as told takes " + method, isTold(type), true);
                }
            }
        }
    }

    private static boolean isTold(Class<?> type) {
        Class<?> one = type.isArray() ? type.getComponentType() : type;
        return NUMBERS.contains(one) || classes().contains(one);
    }

    private static void library(String source) {
        CHECK.rule(4, "The library: only what stands here.");
        none(source, "\\bimport (?!java\\.util\\.Arrays;)");
        Matcher used = Pattern.compile("(?<![\\w.])([A-Z]\\w*)\\.(\\w+)").matcher(source);
        while (used.find()) {
            CHECK.due("listed is " + used.group(), LIBRARY.contains(used.group()), true);
        }
        none(source, "\\w+Exact\\b");
    }

    private static void staticFields(String source) {
        CHECK.rule(5, "Static fields are final");
        none(source, "\\bstatic\\s*\\{");
        for (Class<?> one : classes()) {
            for (Field field : one.getDeclaredFields()) {
                if (Modifier.isStatic(field.getModifiers())) {
                    Class<?> type = field.getType();
                    boolean isTold = NUMBERS.contains(type) || STATIC_ROWS.contains(type);
                    CHECK.due("final is " + field, Modifier.isFinal(field.getModifiers()), true);
                    CHECK.due("a constant's type has " + field, isTold, true);
                }
            }
        }
    }

    private static void barredWords(String source) {
        CHECK.rule(6, "No throw, try, catch, synchronized, assert");
        none(source, "\\b(throw|throws|try|catch|finally|synchronized|assert)\\b");
        none(source, "\\b(equals|hashCode|toString)\\b");
        CHECK.rule(13, "No clock, no randomness, no file, network, thread or environment");
        none(source, "\\b(volatile|transient|native|Thread|Random|Runtime)\\b");
    }

    private static void shortEnough(String source) {
        CHECK.rule(11, "A method takes at most seven parameters.");
        for (Class<?> one : classes()) {
            for (Method method : one.getDeclaredMethods()) {
                CHECK.due("few parameters has " + method, method.getParameterCount() <= MOST_PARAMETERS, true);
            }
        }
        CHECK.rule(11, "Methods stay short (some sixty lines)");
        Matcher method = Pattern.compile("(?m)^( +)[^\\n=]*\\) \\{\\n(?s:.*?)\\n\\1\\}").matcher(source);
        while (method.find()) {
            long lines = method.group().lines().count();
            CHECK.due("short is" + method.group().lines().findFirst().get(), lines <= MOST_LINES, true);
        }
        CHECK.rule(11, "the file has at most some twelve classes, and a class some twenty fields "
            + "beside its constants");
        CHECK.due("few enough are " + classes(), classes().size() <= MOST_CLASSES, true);
        for (Class<?> one : classes()) {
            long fields = Arrays.stream(one.getDeclaredFields())
                .filter(field -> !Modifier.isStatic(field.getModifiers())).count();
            CHECK.due("few fields has " + one, fields <= MOST_FIELDS, true);
        }
    }

    private static void room() {
        CHECK.rule(12, "What a run makes is counted");
        int[] facts = new int[40];
        for (int i = 0; i < facts.length; i++) {
            facts[i] = new int[] {i, 40 + i / 4, i / 4 % 4, 60}[i % 4];
        }
        DrawBench bench = Check.benchOf(facts);
        allCalls(bench);
        com.sun.management.ThreadMXBean meter =
            (com.sun.management.ThreadMXBean) ManagementFactory.getThreadMXBean();
        meter.getCurrentThreadAllocatedBytes();
        long before = meter.getCurrentThreadAllocatedBytes();
        for (int round = 0; round < 4; round++) {
            allCalls(bench);
        }
        long bytes = meter.getCurrentThreadAllocatedBytes() - before;
        CHECK.due("no objects are made by calls that take " + bytes + " bytes", bytes < 4096, true);
        before = meter.getCurrentThreadAllocatedBytes();
        new DrawBench();
        bytes = meter.getCurrentThreadAllocatedBytes() - before;
        CHECK.due("a bench of " + bytes + " bytes is small", bytes < 32768, true);
    }

    private static void allCalls(DrawBench bench) {
        bench.row(0, 2, 60);
        bench.write(0, 0, 1);
        bench.tear(0);
        bench.crowd(0);
        bench.drawn(0, 1);
        for (int kind = 0; kind < 5; kind++) {
            bench.draw(kind, 9);
            bench.chance(0);
            bench.both(0, 1);
            bench.set(511);
            bench.sets();
            bench.many();
            bench.sum(1023);
            bench.mean();
            bench.spread();
        }
        bench.heap(0);
        bench.share(5, 0);
        bench.least(5);
        bench.bands(4);
        bench.band(4, 2);
        bench.look(1);
        bench.part(true, 0);
        bench.count(2);
    }
}
