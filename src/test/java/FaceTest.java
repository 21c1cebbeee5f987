import java.lang.reflect.Constructor;
import java.lang.reflect.Field;
import java.lang.reflect.Method;
import java.lang.reflect.Modifier;
import java.util.TreeSet;

/** The face: the document's constants, constructor and methods, and no other member to be seen. */
public final class FaceTest {
    private static final String[] METHODS = {
        "boolean open(int)", "int body(int,int,int)", "int head(int,int,int)", "boolean pair(int,int)",
        "int close()", "int drop()", "int fact(int,int,int)", "boolean take(int,int,int)",
        "boolean acyclic()", "int start()", "int step()", "int run(int)", "void reset()", "int state()",
        "int size(int)", "int at(int,int)", "int nulls()", "int fold()", "int answers()", "int answer(int)",
    };
    private static final String[] CONSTANTS = {
        "NONE=-3", "EMPTY=-4", "MIXED=-5", "HEAD=-6", "LOOSE=-7", "MANY=-8", "CYCLIC=-9",
    };

    public static void main(String[] args) throws IllegalAccessException {
        Checks checks = new Checks();
        Class<?> face = MappingChase.class;
        checks.due("public and final", face.getModifiers(), Modifier.PUBLIC | Modifier.FINAL);
        same(checks, "methods", methods(face), METHODS);
        same(checks, "constants", constants(face), CONSTANTS);
        Constructor<?>[] constructors = face.getDeclaredConstructors();
        checks.due("constructors", constructors.length, 1);
        checks.due("constructor's parameters", constructors[0].getParameterCount(), 0);
        checks.due("constructor is public", Modifier.isPublic(constructors[0].getModifiers()), true);
        Class<?>[] insides = face.getDeclaredClasses();
        checks.due("some twelve classes at most", insides.length < 12, true);
        bounds(checks, face);
        for (Class<?> inside : insides) {
            int modifiers = inside.getModifiers();
            checks.due(inside + " is static", Modifier.isStatic(modifiers), true);
            checks.due(inside + " is hidden", Modifier.isPublic(modifiers) || Modifier.isProtected(modifiers), false);
            bounds(checks, inside);
        }
        checks.end();
    }

    /** What LANGUAGE.md bounds in every class, as far as it can be counted from outside. */
    private static void bounds(Checks checks, Class<?> type) {
        for (Method method : type.getDeclaredMethods()) {
            boolean hides = !Modifier.isPublic(method.getModifiers()) && isOfFace(method.getName());
            checks.due(method + " bears the name of a public one", hides, false);
            checks.due(method + " takes seven parameters at most", method.getParameterCount() <= 7, true);
        }
        int own = 0;
        for (Field field : type.getDeclaredFields()) {
            boolean isStatic = Modifier.isStatic(field.getModifiers());
            checks.due(field + " is final if static", isStatic && !Modifier.isFinal(field.getModifiers()), false);
            own += isStatic ? 0 : 1;
        }
        checks.due(type + " has some twenty fields at most", own <= 20, true);
    }

    private static boolean isOfFace(String name) {
        for (String method : METHODS) {
            if (method.contains(" " + name + "(")) {
                return true;
            }
        }
        return false;
    }

    private static void same(Checks checks, String what, TreeSet<String> got, String[] want) {
        TreeSet<String> due = new TreeSet<>(java.util.Arrays.asList(want));
        checks.due(what + " are " + got + ", due are " + due + ";", got.equals(due), true);
    }

    private static TreeSet<String> methods(Class<?> face) {
        TreeSet<String> set = new TreeSet<>();
        for (Method method : face.getDeclaredMethods()) {
            int modifiers = method.getModifiers();
            if (!Modifier.isPrivate(modifiers)) {
                StringBuilder text = new StringBuilder();
                text.append(modifiers == Modifier.PUBLIC ? "" : Modifier.toString(modifiers) + " ");
                text.append(method.getReturnType()).append(' ').append(method.getName()).append('(');
                String comma = "";
                for (Class<?> parameter : method.getParameterTypes()) {
                    text.append(comma).append(parameter);
                    comma = ",";
                }
                set.add(text.append(')').toString());
            }
        }
        return set;
    }

    private static TreeSet<String> constants(Class<?> face) throws IllegalAccessException {
        TreeSet<String> set = new TreeSet<>();
        for (Field field : face.getDeclaredFields()) {
            int modifiers = field.getModifiers();
            if (!Modifier.isPrivate(modifiers)) {
                boolean constant = modifiers == (Modifier.PUBLIC | Modifier.STATIC | Modifier.FINAL);
                set.add(constant ? field.getName() + "=" + field.getInt(null) : field.toString());
            }
        }
        return set;
    }
}
