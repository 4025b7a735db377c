import java.lang.reflect.Method;
import java.lang.reflect.Modifier;
import java.nio.file.Files;
import java.nio.file.Path;
import java.util.Set;
import java.util.TreeSet;
import java.util.regex.Matcher;
import java.util.regex.Pattern;

/** Plays the sample of README.md: what stands behind a line's calls is the last one's answer, or the RESULT. */
public final class ReadmeTest {
    private static final Pattern SAMPLE = Pattern.compile("(?s)```java\n(.*?)```");
    private static final Pattern CALL = Pattern.compile("bench\\.(\\w+)\\(([^)]*)\\);");
    private static final Pattern TOLD = Pattern.compile("; +// (-?\\d+(?:/\\d+)?|true|false)");
    private static final Check CHECK = new Check();

    private final DrawBench bench = new DrawBench();
    private final Set<String> used = new TreeSet<>();

    public static void main(String[] args) throws Exception {
        Matcher sample = SAMPLE.matcher(Files.readString(Path.of("README.md")));
        CHECK.due("there is a sample", sample.find(), true);
        ReadmeTest test = new ReadmeTest();
        for (String line : sample.group(1).split("\n")) {
            test.play(line);
        }
        CHECK.due("calls in the sample", test.used.toString(), publicNames().toString());
        CHECK.end("ReadmeTest");
    }

    private static Set<String> publicNames() {
        Set<String> names = new TreeSet<>();
        for (Method method : DrawBench.class.getDeclaredMethods()) {
            if (Modifier.isPublic(method.getModifiers())) {
                names.add(method.getName());
            }
        }
        return names;
    }

    private void play(String line) throws Exception {
        Object answer = null;
        Matcher call = CALL.matcher(line);
        while (call.find()) {
            answer = make(call.group(1), call.group(2).isEmpty() ? new String[0] : call.group(2).split(", *"));
        }
        Matcher told = TOLD.matcher(line);
        if (told.find()) {
            boolean isResult = told.group(1).contains("/");
            String got = isResult ? Check.resultOf(bench) : String.valueOf(answer);
            CHECK.due(line, got, told.group(1));
        }
    }

    private Object make(String name, String[] arguments) throws Exception {
        used.add(name);
        for (Method method : DrawBench.class.getDeclaredMethods()) {
            if (method.getName().equals(name)) {
                Object[] values = new Object[arguments.length];
                for (int i = 0; i < values.length; i++) {
                    values[i] = value(method.getParameterTypes()[i], arguments[i]);
                }
                return method.invoke(bench, values);
            }
        }
        throw new IllegalStateException("README.md calls " + name);
    }

    private static Object value(Class<?> type, String text) {
        if (type == boolean.class) {
            return Boolean.valueOf(text);
        }
        if (type == long.class) {
            return Long.valueOf(text);
        }
        return Integer.valueOf(text);
    }
}
