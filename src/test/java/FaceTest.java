import java.lang.reflect.Constructor;
import java.lang.reflect.Field;
import java.lang.reflect.Member;
import java.lang.reflect.Method;
import java.lang.reflect.Modifier;
import java.util.Set;
import java.util.TreeSet;

/** The document's public face, and the rules of LANGUAGE.md that the compiled class can show. */
public final class FaceTest {
    private static final Due DUE = new Due();
    private static final Class<?> TREE = VersionTree.class;

    private FaceTest() { }

    public static void main(String[] args) {
        theClass();
        theConstructor();
        theConstant();
        theMethods();
        theFields();
        DUE.end();
    }

    private static void theClass() {
        DUE.due("public final", TREE.getModifiers(), Modifier.PUBLIC | Modifier.FINAL);
        DUE.due("nested classes", TREE.getDeclaredClasses().length, 0);
        DUE.due("no package", TREE.getPackageName().isEmpty(), true);
        DUE.due("no parent", TREE.getSuperclass() == Object.class, true);
        DUE.due("interfaces", TREE.getInterfaces().length, 0);
    }

    private static void theConstructor() {
        Constructor<?>[] found = TREE.getDeclaredConstructors();
        DUE.due("constructors", found.length, 1);
        DUE.due("public constructor", found[0].getModifiers(), Modifier.PUBLIC);
        DUE.due("arguments of the constructor", found[0].getParameterCount(), 0);
    }

    private static void theConstant() {
        Field[] found = TREE.getFields();
        DUE.due("public fields", found.length, 1);
        for (Field field : found) {
            int due = Modifier.PUBLIC | Modifier.STATIC | Modifier.FINAL;
            DUE.due(field + " is public static final", field.getModifiers(), due);
            DUE.due(field + " is NONE", field.getName().equals("NONE"), true);
            DUE.due(field + " is an int", field.getType() == int.class, true);
        }
        DUE.due("NONE", VersionTree.NONE, -1);
    }

    private static void theMethods() {
        Set<String> face = new TreeSet<>(Set.of(
            "boolean put 2", "boolean remove 1", "int save 0", "boolean goBack 1", "int kept 0",
            "boolean has 2", "int get 2", "int count 1", "int from 2", "int upTo 2", "int keyAt 2",
            "int rank 2", "int sum 3", "int difference 2", "int keys 1"));
        Set<String> names = new TreeSet<>();
        for (String line : face) {
            names.add(line.split(" ")[1]);
        }
        Set<String> found = new TreeSet<>();
        for (Method method : TREE.getDeclaredMethods()) {
            DUE.due(method + " is public or private", publicOrPrivate(method), true);
            if (Modifier.isPublic(method.getModifiers())) {
                found.add(method.getReturnType() + " " + method.getName() + " "
                    + method.getParameterCount());
                DUE.due(method + " is public alone", method.getModifiers(), Modifier.PUBLIC);
                DUE.due(method + " takes ints alone", takesIntsAlone(method), true);
            } else {
                DUE.due(method + " has its own name", names.contains(method.getName()), false);
            }
            DUE.due(method + " takes at most seven", method.getParameterCount() <= 7, true);
            DUE.due(method + " answers no array", method.getReturnType().isArray(), false);
        }
        DUE.due("public methods " + found, found.equals(face), true);
    }

    private static boolean takesIntsAlone(Method method) {
        for (Class<?> type : method.getParameterTypes()) {
            if (type != int.class) {
                return false;
            }
        }
        return true;
    }

    private static void theFields() {
        for (Field field : TREE.getDeclaredFields()) {
            DUE.due(field + " is public or private", publicOrPrivate(field), true);
            Class<?> type = field.getType();
            Class<?> element = type.isArray() ? type.getComponentType() : type;
            boolean number = element.isPrimitive() && element != float.class && element != double.class;
            DUE.due(field + " is of a type allowed", number, true);
            if (Modifier.isStatic(field.getModifiers())) {
                boolean constant = Modifier.isFinal(field.getModifiers())
                    && (type == int.class || type == long.class);
                DUE.due(field + " is a constant", constant, true);
            }
        }
    }

    private static boolean publicOrPrivate(Member member) {
        int modifiers = member.getModifiers();
        return Modifier.isPublic(modifiers) || Modifier.isPrivate(modifiers);
    }
}
