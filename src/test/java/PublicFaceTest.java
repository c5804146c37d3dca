import java.lang.reflect.Constructor;
import java.lang.reflect.Field;
import java.lang.reflect.Method;
import java.lang.reflect.Modifier;
import java.util.Set;
import java.util.TreeSet;

/** The class has just the members that the document shows, and the fields that LANGUAGE.md allows. */
public final class PublicFaceTest {
    private static final Set<String> METHODS = new TreeSet<>(Set.of(
        "int simple(int,int)", "int one(int,int)", "int two(int,int)", "int depth()", "int discard()",
        "int program()", "void restart()", "int tick(int)", "int status(int)", "int active(int)",
        "int ended()", "int instants()", "int look(int)", "int emitted(int)"));

    public static void main(String[] args) {
        Class<ReactiveTicks> face = ReactiveTicks.class;
        Check.due("public and final", face.getModifiers(), Modifier.PUBLIC | Modifier.FINAL);
        Check.due("nested classes", face.getDeclaredClasses().length, 0);
        constants();
        constructors(face);
        methods(face);
        fields(face);
        Check.end();
    }

    private static void constants() {
        Check.due("BAD_ARG", ReactiveTicks.BAD_ARG, -1);
        Check.due("FULL", ReactiveTicks.FULL, -2);
        Check.due("TOO_FEW", ReactiveTicks.TOO_FEW, -3);
        Check.due("NONE", ReactiveTicks.NONE, -4);
        Check.due("BAD_EXIT", ReactiveTicks.BAD_EXIT, -5);
        Check.due("ENDED", ReactiveTicks.ENDED, 0);
        Check.due("GOES_ON", ReactiveTicks.GOES_ON, 1);
        Check.due("STUCK", ReactiveTicks.STUCK, 2);
    }

    private static void constructors(Class<?> face) {
        Constructor<?>[] all = face.getDeclaredConstructors();
        Check.due("constructors", all.length, 1);
        Check.due("its parameters", all[0].getParameterCount(), 0);
        Check.due("it is public", Modifier.isPublic(all[0].getModifiers()) ? 1 : 0, 1);
    }

    private static void methods(Class<?> face) {
        Set<String> seen = new TreeSet<>();
        for (Method method : face.getDeclaredMethods()) {
            if (!Modifier.isPrivate(method.getModifiers())) {
                seen.add(told(method));
            } else {
                Check.due("a public name: " + told(method), isPublicName(method.getName()) ? 1 : 0, 0);
            }
            Check.due("parameters of " + told(method), method.getParameterCount() > 7 ? 1 : 0, 0);
        }
        Check.due("methods " + seen + " for " + METHODS, seen.equals(METHODS) ? 1 : 0, 1);
    }

    private static String told(Method method) {
        String types = "";
        for (Class<?> type : method.getParameterTypes()) {
            types += (types.isEmpty() ? "" : ",") + type.getName();
        }
        return method.getReturnType().getName() + " " + method.getName() + "(" + types + ")";
    }

    private static boolean isPublicName(String name) {
        for (String method : METHODS) {
            if (method.contains(" " + name + "(")) {
                return true;
            }
        }
        return false;
    }

    private static void fields(Class<?> face) {
        int publicOnes = 0;
        int beside = 0;
        for (Field field : face.getDeclaredFields()) {
            int modifiers = field.getModifiers();
            Class<?> type = field.getType();
            if (!Modifier.isPrivate(modifiers)) {
                publicOnes++;
                Check.due(field.getName() + " is a constant", modifiers,
                    Modifier.PUBLIC | Modifier.STATIC | Modifier.FINAL);
            }
            if (Modifier.isStatic(modifiers)) {
                boolean constant = Modifier.isFinal(modifiers) && (type == int.class || type == long.class);
                Check.due(field.getName() + " is a number", constant ? 1 : 0, 1);
            } else {
                beside++;
                Class<?> element = type.isArray() ? type.getComponentType() : type;
                Check.due(field.getName() + " holds numbers", element.isPrimitive() ? 1 : 0, 1);
            }
        }
        Check.due("public fields", publicOnes, 8);
        Check.due("at most 40 fields", beside > 40 ? 1 : 0, 0);
    }
}
