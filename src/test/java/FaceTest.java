import java.lang.reflect.Constructor;
import java.lang.reflect.Field;
import java.lang.reflect.Method;
import java.lang.reflect.Modifier;
import java.util.Set;
import java.util.TreeSet;

/** What "The public face" says: the class, its constant, its constructor and its methods, and no more. */
public final class FaceTest {
    private static final String PART = "The public face";
    private static final Set<String> FACE = Set.of(
        "int row(int,int,int)", "boolean tear(int)", "int write(int,int,long)", "int crowd(int)",
        "int drawn(int,int)", "int draw(int,int)", "boolean chance(int)", "boolean both(int,int)",
        "boolean set(int)", "int sets()", "void many()", "boolean sum(int)", "void mean()",
        "void spread()", "boolean heap(int)", "int share(int,int)", "boolean least(int)",
        "int bands(int)", "int band(int,int)", "int look(int)", "int part(boolean,int)",
        "int count(int)");
    private static final Check CHECK = new Check();

    public static void main(String[] args) throws Exception {
        theClass();
        theConstant();
        theConstructor();
        theMethods();
        noOtherMember();
        CHECK.end("FaceTest");
    }

    private static void theClass() {
        CHECK.words(PART, "public final class DrawBench {");
        CHECK.due("its name", DrawBench.class.getName(), "DrawBench");
        CHECK.due("its modifiers", Modifier.toString(DrawBench.class.getModifiers()), "public final");
        CHECK.due("what it extends", DrawBench.class.getSuperclass().getName(), "java.lang.Object");
        CHECK.due("what it implements", DrawBench.class.getInterfaces().length, 0);
        CHECK.due("its type parameters", DrawBench.class.getTypeParameters().length, 0);
    }

    private static void theConstant() throws Exception {
        CHECK.words(PART, "public static final int NONE = -1;");
        Field none = DrawBench.class.getDeclaredField("NONE");
        CHECK.due("its modifiers", Modifier.toString(none.getModifiers()), "public static final");
        CHECK.due("its type", none.getType().getName(), "int");
        CHECK.due("NONE", none.getInt(null), -1);
    }

    private static void theConstructor() {
        CHECK.words(PART, "public DrawBench();");
        Constructor<?>[] made = DrawBench.class.getDeclaredConstructors();
        CHECK.due("constructors", made.length, 1);
        CHECK.due("its modifiers", Modifier.toString(made[0].getModifiers()), "public");
        CHECK.due("its parameters", made[0].getParameterCount(), 0);
        CHECK.due("what it tells to throw", made[0].getExceptionTypes().length, 0);
    }

    private static void theMethods() {
        CHECK.words(PART, "public int row(int slot, int width, int n);");
        Set<String> found = new TreeSet<>();
        for (Method method : DrawBench.class.getDeclaredMethods()) {
            if (!Modifier.isPrivate(method.getModifiers())) {
                CHECK.due("modifiers of " + method, Modifier.toString(method.getModifiers()), "public");
                CHECK.due("what " + method + " tells to throw", method.getExceptionTypes().length, 0);
                found.add(text(method));
            }
        }
        CHECK.due("the methods", found.toString(), new TreeSet<>(FACE).toString());
    }

    private static String text(Method method) {
        StringBuilder text = new StringBuilder(method.getReturnType().getName());
        text.append(' ').append(method.getName()).append('(');
        for (Class<?> type : method.getParameterTypes()) {
            text.append(text.charAt(text.length() - 1) == '(' ? "" : ",").append(type.getName());
        }
        return text.append(')').toString();
    }

    private static void noOtherMember() {
        CHECK.rule(1, "no other public, protected or package-visible member, but for the classes inside it, "
            + "which are private or package-visible and static");
        for (Field field : DrawBench.class.getDeclaredFields()) {
            boolean isNone = field.getName().equals("NONE");
            CHECK.due("private is " + field, Modifier.isPrivate(field.getModifiers()), !isNone);
        }
        for (Class<?> inside : DrawBench.class.getDeclaredClasses()) {
            int shown = inside.getModifiers() & (Modifier.PUBLIC | Modifier.PROTECTED);
            CHECK.due(inside + " is public or protected", shown != 0, false);
            CHECK.due(inside + " is static", Modifier.isStatic(inside.getModifiers()), true);
        }
        CHECK.rule(1, "No private method bears the name of a public one.");
        Set<String> names = new TreeSet<>();
        for (String one : FACE) {
            names.add(one.substring(one.indexOf(' ') + 1, one.indexOf('(')));
        }
        for (Class<?> one : LanguageTest.classes()) {
            for (Method method : one.getDeclaredMethods()) {
                boolean isFace = one == DrawBench.class && Modifier.isPublic(method.getModifiers());
                CHECK.due("of the face is " + method, names.contains(method.getName()), isFace);
            }
        }
    }
}
