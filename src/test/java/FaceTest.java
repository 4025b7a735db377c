import java.lang.management.ManagementFactory;
import java.lang.reflect.Constructor;
import java.lang.reflect.Field;
import java.lang.reflect.Method;
import java.lang.reflect.Modifier;
import java.nio.file.Files;
import java.nio.file.Path;
import java.util.Set;
import java.util.TreeSet;
import java.util.regex.Pattern;

/** The class's face, the rules of LANGUAGE.md that can be seen by a test, and the room it takes. */
public final class FaceTest {
    private static final Set<String> FACE = Set.of(
        "int row(int,int,int)", "boolean tear(int)", "int write(int,int,long)", "int crowd(int)",
        "int drawn(int,int)", "int draw(int,int)", "boolean chance(int)", "boolean both(int,int)",
        "boolean set(int)", "int sets()", "void many()", "boolean sum(int)", "void mean()",
        "void spread()", "boolean heap(int)", "int share(int,int)", "boolean least(int)",
        "int bands(int)", "int band(int,int)", "int look(int)", "int part(boolean,int)",
        "int count(int)");
    private static final String[] BARRED = {
        "throw", "throws", "try", "catch", "finally", "synchronized", "assert", "->", "::",
        "Exact", "System\\.(?!arraycopy)", "Random", "Thread", "package", "double", "float",
        "BigInteger", "protected", "static \\{"};
    private static final Check CHECK = new Check();

    public static void main(String[] args) throws Exception {
        face();
        words();
        room();
        CHECK.end("FaceTest");
    }

    private static void face() throws Exception {
        CHECK.due("NONE", DrawBench.NONE, -1);
        CHECK.due("public and final", DrawBench.class.getModifiers(),
            Modifier.PUBLIC | Modifier.FINAL);
        Set<String> found = new TreeSet<>();
        for (Method method : DrawBench.class.getDeclaredMethods()) {
            if (Modifier.isPrivate(method.getModifiers())) {
                CHECK.due("a private " + method.getName(), isPublicName(method.getName()), false);
            } else {
                CHECK.due(method + " is public and no more", method.getModifiers(), Modifier.PUBLIC);
                found.add(text(method));
            }
        }
        CHECK.due("the methods are " + found, found.equals(new TreeSet<>(FACE)), true);
        for (Field field : DrawBench.class.getDeclaredFields()) {
            boolean isNone = field.getName().equals("NONE");
            CHECK.due("field " + field, Modifier.isPrivate(field.getModifiers()), !isNone);
        }
        for (Constructor<?> made : DrawBench.class.getDeclaredConstructors()) {
            CHECK.due(made + " is public", made.getModifiers(), Modifier.PUBLIC);
            CHECK.due(made + " has no parameters", made.getParameterCount(), 0);
        }
        for (Class<?> inside : DrawBench.class.getDeclaredClasses()) {
            CHECK.due(inside + " is static", Modifier.isStatic(inside.getModifiers()), true);
        }
    }

    private static boolean isPublicName(String name) {
        return FACE.stream().anyMatch(one -> one.contains(" " + name + "("));
    }

    private static String text(Method method) {
        StringBuilder text = new StringBuilder(method.getReturnType().getName());
        text.append(' ').append(method.getName()).append('(');
        for (Class<?> type : method.getParameterTypes()) {
            text.append(text.charAt(text.length() - 1) == '(' ? "" : ",").append(type.getName());
        }
        return text.append(')').toString();
    }

    private static void words() throws Exception {
        String source = Files.readString(Path.of("src/main/java/DrawBench.java"))
            .replaceAll("(?s)/\\*.*?\\*/", "").replaceAll("//.*", "");
        for (String barred : BARRED) {
            String word = Character.isLetter(barred.charAt(0)) && barred.matches("[a-z]+")
                ? "\\b" + barred + "\\b" : barred;
            CHECK.due("uses of " + barred, Pattern.compile(word).matcher(source).results().count(), 0);
        }
        CHECK.due("imports", Pattern.compile("\\bimport\\b").matcher(source).results().count(), 1);
        CHECK.due("import of Arrays", source.contains("import java.util.Arrays;"), true);
    }

    /** No call makes an object: all runs of calls live in one room. */
    private static void room() {
        int[] facts = new int[40];
        for (int i = 0; i < facts.length; i++) {
            facts[i] = new int[] {i, 40 + i / 4, i / 4 % 4, 60}[i % 4];
        }
        DrawBench bench = Check.benchOf(facts);
        allCalls(bench);
        com.sun.management.ThreadMXBean meter =
            (com.sun.management.ThreadMXBean) ManagementFactory.getThreadMXBean();
        meter.getCurrentThreadAllocatedBytes();
        long before = meter.getCurrentThreadAllocatedBytes();
        for (int round = 0; round < 4; round++) {
            allCalls(bench);
        }
        long bytes = meter.getCurrentThreadAllocatedBytes() - before;
        CHECK.due("calls that make " + bytes + " bytes", bytes < 4096, true);
    }

    private static void allCalls(DrawBench bench) {
        bench.row(0, 2, 60);
        bench.write(0, 0, 1);
        bench.tear(0);
        bench.crowd(0);
        bench.drawn(0, 1);
        for (int kind = 0; kind < 5; kind++) {
            bench.draw(kind, 9);
            bench.chance(0);
            bench.both(0, 1);
            bench.set(511);
            bench.sets();
            bench.many();
            bench.sum(1023);
            bench.mean();
            bench.spread();
        }
        bench.heap(0);
        bench.share(5, 0);
        bench.least(5);
        bench.bands(4);
        bench.band(4, 2);
        bench.look(1);
        bench.part(true, 0);
        bench.count(2);
    }
}
