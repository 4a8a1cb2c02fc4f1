import java.lang.reflect.Constructor;
import java.lang.reflect.Field;
import java.lang.reflect.Method;
import java.lang.reflect.Modifier;
import java.util.Arrays;
import java.util.Set;
import java.util.TreeSet;

/** The public face: what the document has, and nothing else that other classes can see. */
final class FaceTest {
    private static final Check CHECK = new Check("FaceTest");

    /** All methods as the document writes them, without the names of their parameters. */
    private static final String[] FACE = {
        "int feed(int, int, int, int, int)",
        "int end(int)",
        "int read()",
        "int node(int, int)",
        "int piece(int, int)",
        "int letter(int, int)",
        "int restart() throws IllegalStateException",
        "int instant(int) throws IllegalStateException, IllegalArgumentException",
        "int status(int)",
        "boolean selected(int)",
        "void go(int) throws IllegalStateException, IllegalArgumentException",
        "int explore() throws IllegalStateException",
        "int distance(int)",
        "int path(int, int)",
        "int next(int, int) throws IllegalStateException",
        "int shows(int, int) throws IllegalStateException",
        "int doubt(int)",
        "int ever(int)",
        "int together(int, int)",
        "int classes() throws IllegalStateException",
        "int alike(int)",
        "int lay() throws IllegalStateException",
        "long pass(int) throws IllegalStateException, IllegalArgumentException",
        "int level(int)",
        "int size(int)",
        "int count(int)",
    };

    public static void main(String[] args) {
        CHECK.about("The public face");
        theClass();
        constants();
        constructors();
        methods();
        classesInside();
        CHECK.finish();
    }

    private static void theClass() {
        int modifiers = SignalEngine.class.getModifiers();
        CHECK.holds("the class is public", Modifier.isPublic(modifiers));
        CHECK.holds("the class is final", Modifier.isFinal(modifiers));
        CHECK.holds("the class has no package", SignalEngine.class.getPackageName().isEmpty());
        CHECK.holds("the class extends nothing", SignalEngine.class.getSuperclass() == Object.class);
        CHECK.equal("interfaces of the class", SignalEngine.class.getInterfaces().length, 0);
    }

    private static void constants() {
        for (Field field : SignalEngine.class.getDeclaredFields()) {
            boolean none = field.getName().equals("NONE");
            CHECK.holds(field.getName() + " is private", none || Modifier.isPrivate(field.getModifiers()));
            CHECK.holds(field.getName() + " is final, if it is static",
                    !Modifier.isStatic(field.getModifiers()) || Modifier.isFinal(field.getModifiers()));
        }
        CHECK.equal("fields that are public", SignalEngine.class.getFields().length, 1);
        Field none = SignalEngine.class.getFields()[0];
        CHECK.holds("NONE is public static final int", none.getName().equals("NONE") && none.getType() == int.class
                && none.getModifiers() == (Modifier.PUBLIC | Modifier.STATIC | Modifier.FINAL));
        CHECK.equal("NONE", SignalEngine.NONE, -1);
    }

    private static void constructors() {
        Constructor<?>[] constructors = SignalEngine.class.getDeclaredConstructors();
        CHECK.equal("constructors", constructors.length, 1);
        CHECK.holds("the constructor is public", Modifier.isPublic(constructors[0].getModifiers()));
        CHECK.equal("parameters of the constructor", constructors[0].getParameterCount(), 0);
        CHECK.equal("exceptions of the constructor", constructors[0].getExceptionTypes().length, 0);
    }

    private static void methods() {
        Set<String> seen = new TreeSet<>();
        Set<String> names = new TreeSet<>();
        for (Method method : SignalEngine.class.getDeclaredMethods()) {
            if (!method.isSynthetic() && !Modifier.isPrivate(method.getModifiers())) {
                CHECK.equal(method.getName() + " is public and nothing else", method.getModifiers(), Modifier.PUBLIC);
                seen.add(written(method));
                names.add(method.getName());
            }
        }
        Set<String> due = new TreeSet<>(Arrays.asList(FACE));
        CHECK.holds("the methods are " + due + " and not " + seen, seen.equals(due));
        noPrivateOneIsCalledSo(SignalEngine.class, names);
    }

    private static String written(Method method) {
        StringBuilder text = new StringBuilder(method.getReturnType().getSimpleName());
        text.append(' ').append(method.getName()).append('(').append(listed(method.getParameterTypes())).append(')');
        if (method.getExceptionTypes().length > 0) {
            text.append(" throws ").append(listed(method.getExceptionTypes()));
        }
        return text.toString();
    }

    private static String listed(Class<?>[] types) {
        StringBuilder text = new StringBuilder();
        for (Class<?> type : types) {
            text.append(text.length() == 0 ? "" : ", ").append(type.getSimpleName());
        }
        return text.toString();
    }

    /** LANGUAGE.md, rule 1: no private method bears the name of a public one. */
    private static void noPrivateOneIsCalledSo(Class<?> where, Set<String> names) {
        for (Method method : where.getDeclaredMethods()) {
            boolean face = where == SignalEngine.class && Modifier.isPublic(method.getModifiers());
            CHECK.holds(where.getSimpleName() + "." + method.getName() + " has a name of its own",
                    face || !names.contains(method.getName()));
        }
        for (Class<?> inside : where.getDeclaredClasses()) {
            noPrivateOneIsCalledSo(inside, names);
        }
    }

    private static void classesInside() {
        for (Class<?> inside : SignalEngine.class.getDeclaredClasses()) {
            int modifiers = inside.getModifiers();
            CHECK.holds(inside.getSimpleName() + " is static", Modifier.isStatic(modifiers));
            CHECK.holds(inside.getSimpleName() + " is not seen",
                    !Modifier.isPublic(modifiers) && !Modifier.isProtected(modifiers));
        }
    }
}
