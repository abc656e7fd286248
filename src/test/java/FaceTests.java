import java.lang.reflect.Constructor;
import java.lang.reflect.Field;
import java.lang.reflect.Method;
import java.lang.reflect.Modifier;
import java.util.ArrayList;
import java.util.Arrays;
import java.util.HashSet;
import java.util.List;
import java.util.Set;
import java.util.TreeMap;
import java.util.TreeSet;

/** The public face of the document, and the rules of the language that the compiled class shows. */
public final class FaceTests {
    private static final Class<?> FACE = StructuralTypes.class;

    private static final Set<String> METHODS = Set.of(
            "int shape(int, int)",
            "int fun(int, int, int)",
            "int field(int, int, int, int)",
            "int dropField(int, int)",
            "boolean subtype(int, int)",
            "boolean equivalent(int, int)",
            "int subtypes(int)",
            "int kinds()",
            "int unrelated()",
            "int shapeOf(int)");

    private static int wrong = 0;

    private static void due(String what, Object got, Object want) {
        if (!got.equals(want)) {
            wrong++;
            System.out.println(what + " is " + got + ", due is " + want);
        }
    }

    public static void main(String[] args) throws Exception {
        theClass();
        constants();
        constructors();
        methods();
        fields();
        System.out.println(wrong == 0 ? "the face is as due" : wrong + " things are not as due");
        if (wrong != 0) {
            System.exit(1);
        }
    }

    private static void theClass() {
        due("modifiers", FACE.getModifiers(), Modifier.PUBLIC | Modifier.FINAL);
        due("package", FACE.getPackageName(), "");
        due("superclass", FACE.getSuperclass(), Object.class);
        due("interfaces", FACE.getInterfaces().length, 0);
        due("nested classes", FACE.getDeclaredClasses().length, 0);
    }

    private static void constants() throws Exception {
        TreeMap<String, Integer> want = new TreeMap<>();
        List<String> shapes = Arrays.asList("INT", "BOOL", "ANY", "NEVER", "FUN", "RECORD");
        List<String> faults = Arrays.asList("BAD_TYPE", "BAD_LABEL", "NO_RECORD", "BAD_SHAPE");
        shapes.forEach(name -> want.put(name, shapes.indexOf(name)));
        faults.forEach(name -> want.put(name, -1 - faults.indexOf(name)));
        TreeMap<String, Integer> got = new TreeMap<>();
        for (Field field : FACE.getDeclaredFields()) {
            if (!Modifier.isPrivate(field.getModifiers())) {
                due("modifiers of " + field.getName(), field.getModifiers(),
                        Modifier.PUBLIC | Modifier.STATIC | Modifier.FINAL);
                due("type of " + field.getName(), field.getType(), int.class);
                got.put(field.getName(), field.getInt(null));
            }
        }
        due("constants", got, want);
    }

    private static void constructors() {
        Constructor<?>[] all = FACE.getDeclaredConstructors();
        due("number of constructors", all.length, 1);
        due("constructor", all[0].toString(), "public StructuralTypes()");
    }

    private static void methods() {
        Set<String> open = new TreeSet<>();
        Set<String> openNames = new HashSet<>();
        List<String> hiddenNames = new ArrayList<>();
        for (Method method : FACE.getDeclaredMethods()) {
            if (Modifier.isPrivate(method.getModifiers())) {
                hiddenNames.add(method.getName());
            } else {
                due("modifiers of " + method.getName(), method.getModifiers(), Modifier.PUBLIC);
                open.add(written(method));
                openNames.add(method.getName());
            }
            due("few parameters of " + method.getName(), method.getParameterCount() <= 7, true);
        }
        due("methods", open, new TreeSet<>(METHODS));
        for (String name : hiddenNames) {
            due("private " + name + " bears a public name", openNames.contains(name), false);
        }
    }

    private static String written(Method method) {
        List<String> parameters = new ArrayList<>();
        for (Class<?> type : method.getParameterTypes()) {
            parameters.add(type.getSimpleName());
        }
        return method.getReturnType().getSimpleName() + " " + method.getName()
                + "(" + String.join(", ", parameters) + ")";
    }

    private static void fields() {
        int held = 0;
        for (Field field : FACE.getDeclaredFields()) {
            Class<?> type = field.getType();
            if (Modifier.isStatic(field.getModifiers())) {
                due("constant " + field.getName(),
                        Modifier.isFinal(field.getModifiers()) && (type == int.class || type == long.class), true);
            } else {
                held++;
                Class<?> part = type.isArray() ? type.getComponentType() : type;
                boolean plain = part.isPrimitive() && part != float.class && part != double.class;
                due("type of " + field.getName() + " is plain", plain, true);
            }
        }
        due("at most forty fields", held <= 40, true);
    }
}
