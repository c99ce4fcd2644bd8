import java.lang.reflect.Constructor;
import java.lang.reflect.Field;
import java.lang.reflect.Method;
import java.lang.reflect.Modifier;
import java.util.Arrays;
import java.util.Set;
import java.util.TreeSet;

/** The class has the document's face and no other member that can be seen from outside. */
public final class FaceTest {
    private static int wrong = 0;

    public static void main(String[] args) throws ReflectiveOperationException {
        Class<?> desk = ClosureDesk.class;
        due("modifiers", Modifier.toString(desk.getModifiers()), "public final");
        due("package", desk.getPackageName(), "");
        due("superclass", desk.getSuperclass(), Object.class);
        due("interfaces", desk.getInterfaces().length, 0);
        due("nested classes", desk.getDeclaredClasses().length, 0);
        due("constructors", constructorsOf(desk), Set.of("public ClosureDesk()"));
        due("methods", methodsOf(desk), Set.of(
            "public int ClosureDesk.add(int)",
            "public boolean ClosureDesk.remove(int)",
            "public boolean ClosureDesk.rate(int,int)",
            "public boolean ClosureDesk.need(int,int,boolean)",
            "public int ClosureDesk.undertakings()",
            "public boolean ClosureDesk.closed(int)",
            "public int ClosureDesk.closure(int)",
            "public int ClosureDesk.best()",
            "public int ClosureDesk.leastBest()",
            "public int ClosureDesk.greatestBest()",
            "public int ClosureDesk.bestWith(int)",
            "public int ClosureDesk.bestWithout(int)",
            "public int ClosureDesk.threshold(int)",
            "public int ClosureDesk.burden(int,int)",
            "public int ClosureDesk.choices()"));
        due("fields", fieldsOf(desk), Set.of(
            "public static final int NONE = -1",
            "public static final int FULL = -2",
            "public static final int BAD = -100000"));
        due("private methods with a public name", sharedNames(desk), Set.of());
        System.out.println(wrong == 0 ? "the face is as due" : wrong + " parts of the face are not as due");
        if (wrong != 0) {
            System.exit(1);
        }
    }

    private static void due(String what, Object got, Object want) {
        if (!got.equals(want)) {
            wrong++;
            System.out.println(what + ": there is " + got + ", due is " + want);
        }
    }

    private static Set<String> constructorsOf(Class<?> type) {
        Set<String> found = new TreeSet<>();
        for (Constructor<?> constructor : type.getDeclaredConstructors()) {
            found.add(constructor.toString());
        }
        return found;
    }

    private static Set<String> methodsOf(Class<?> type) {
        Set<String> found = new TreeSet<>();
        for (Method method : type.getDeclaredMethods()) {
            if (!Modifier.isPrivate(method.getModifiers())) {
                found.add(method.toString());
            }
        }
        return found;
    }

    private static Set<String> fieldsOf(Class<?> type) throws IllegalAccessException {
        Set<String> found = new TreeSet<>();
        for (Field field : type.getDeclaredFields()) {
            int modifiers = field.getModifiers();
            if (!Modifier.isPrivate(modifiers)) {
                Object value = Modifier.isStatic(modifiers) ? field.get(null) : "a field of each object";
                found.add(Modifier.toString(modifiers) + " " + field.getType() + " " + field.getName() + " = " + value);
            }
        }
        return found;
    }

    private static Set<String> sharedNames(Class<?> type) {
        Set<String> found = new TreeSet<>();
        Method[] methods = type.getDeclaredMethods();
        for (Method method : methods) {
            boolean hidden = Modifier.isPrivate(method.getModifiers());
            if (hidden && Arrays.stream(methods).anyMatch(other -> isPublicNamed(other, method.getName()))) {
                found.add(method.getName());
            }
        }
        return found;
    }

    private static boolean isPublicNamed(Method method, String name) {
        return Modifier.isPublic(method.getModifiers()) && method.getName().equals(name);
    }
}
