import java.lang.reflect.Constructor;
import java.lang.reflect.Field;
import java.lang.reflect.Method;
import java.lang.reflect.Modifier;
import java.util.Set;
import java.util.TreeSet;

/** The public face: every constant, constructor and method of the document, and no other. */
public final class FaceTest {
    private static final String[] METHODS = {
        "boolean write(long)", "void wipe()", "int load()", "int size()", "int distance(int,int)",
        "boolean mark(int,int,int)", "boolean lift(int,int)", "int potential(int)", "int bound()",
        "int degree(int)", "int ascend(int)", "int solve()", "int ties()", "int improve()",
        "int tour(int)", "int add(int,int)", "void drop()", "boolean covers()",
        "int caseBound(int)", "boolean proves(int)"
    };

    public static void main(String[] args) {
        Class<?> face = OneTreeTours.class;
        Check.due("public final", Modifier.PUBLIC | Modifier.FINAL, face.getModifiers());
        Check.due("BAD", -1, OneTreeTours.BAD);
        Check.due("NONE", -2000000, OneTreeTours.NONE);
        methods(face);
        fields(face);
        Constructor<?>[] constructors = face.getDeclaredConstructors();
        Check.due("one constructor", 1, constructors.length);
        Check.due("it is public", true, Modifier.isPublic(constructors[0].getModifiers()));
        Check.due("it takes nothing", 0, constructors[0].getParameterCount());
        for (Class<?> inside : face.getDeclaredClasses()) {
            int modifiers = inside.getModifiers();
            boolean fits = Modifier.isStatic(modifiers) && !Modifier.isPublic(modifiers)
                    && !Modifier.isProtected(modifiers);
            Check.due(inside.getName() + " is static and not public", true, fits);
        }
        Check.finish();
    }

    private static void methods(Class<?> face) {
        Set<String> open = new TreeSet<>();
        Set<String> names = new TreeSet<>();
        for (String method : METHODS) {
            names.add(method.substring(method.indexOf(' ') + 1, method.indexOf('(')));
        }
        for (Method method : face.getDeclaredMethods()) {
            if (Modifier.isPrivate(method.getModifiers()) || method.isSynthetic()) {
                Check.due(method + " has a name of the face", false, names.contains(method.getName()));
            } else {
                open.add(told(method));
                Check.due(method + " is public", Modifier.PUBLIC, method.getModifiers());
            }
        }
        Check.due("the methods " + open, true, open.equals(new TreeSet<>(Set.of(METHODS))));
    }

    private static String told(Method method) {
        StringBuilder text = new StringBuilder();
        text.append(method.getReturnType()).append(' ').append(method.getName()).append('(');
        for (int k = 0; k < method.getParameterCount(); k++) {
            text.append(k > 0 ? "," : "").append(method.getParameterTypes()[k]);
        }
        return text.append(')').toString();
    }

    private static void fields(Class<?> face) {
        int open = 0;
        for (Field field : face.getDeclaredFields()) {
            int modifiers = field.getModifiers();
            if (!Modifier.isPrivate(modifiers)) {
                open++;
                int constant = Modifier.PUBLIC | Modifier.STATIC | Modifier.FINAL;
                Check.due(field + " is a constant", constant, modifiers);
            }
        }
        Check.due("open fields", 2, open);
    }
}
