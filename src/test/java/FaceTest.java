import java.lang.reflect.Constructor;
import java.lang.reflect.Field;
import java.lang.reflect.Method;
import java.lang.reflect.Modifier;
import java.util.Arrays;
import java.util.HashSet;
import java.util.Set;
import java.util.TreeSet;

// The public face is the document's and nothing more; the members keep to the
// rules of LANGUAGE.md that can be seen from outside (1, 2, 5 and 10).
public final class FaceTest {
    private static final String[] METHODS = {
        "int input(int,int)", "int constant(int,int)", "int operation(int,int,int,int)",
        "int when(int)", "int otherwise()", "int repeat(int)", "int close()", "int undo()",
        "void clear()", "int run()", "int value(int,int)", "int time(int)", "int go()",
        "int steps()", "int widest()", "int at(int)", "int last()",
    };
    private static final String[] CONSTANTS = {
        "BAD_ARG=-1000000001", "FULL=-1000000002", "NONE=-1000000003",
        "DONE=0", "TIRED=1", "OPEN=2",
    };

    private static int wrong = 0;

    private static void due(String what, Object got, Object want) {
        if (!got.equals(want)) {
            wrong++;
            System.out.println(what + " is " + got + ", due is " + want);
        }
    }

    public static void main(String[] args) throws IllegalAccessException {
        classItself();
        constructors();
        methods();
        fields();
        System.out.println(wrong == 0 ? "the face is as due" : wrong + " things are not as due");
        if (wrong != 0) {
            System.exit(1);
        }
    }

    private static void classItself() {
        int modifiers = TokenGraphs.class.getModifiers();
        due("the class's modifiers", Modifier.toString(modifiers), "public final");
        due("the superclass", TokenGraphs.class.getSuperclass(), Object.class);
        due("the number of interfaces", TokenGraphs.class.getInterfaces().length, 0);
        due("the number of nested classes", TokenGraphs.class.getDeclaredClasses().length, 0);
        due("the package", TokenGraphs.class.getPackageName(), "");
    }

    private static void constructors() {
        Constructor<?>[] all = TokenGraphs.class.getDeclaredConstructors();
        due("the number of constructors", all.length, 1);
        due("the constructor", all[0].toString(), "public TokenGraphs()");
    }

    private static void methods() {
        Set<String> seen = new TreeSet<>();
        Set<String> publicNames = new HashSet<>();
        for (Method method : TokenGraphs.class.getDeclaredMethods()) {
            if (Modifier.isPrivate(method.getModifiers())) {
                continue;
            }
            due(method + "'s modifiers", Modifier.toString(method.getModifiers()), "public");
            seen.add(signature(method));
            publicNames.add(method.getName());
        }
        due("the methods that are not private", seen, new TreeSet<>(Arrays.asList(METHODS)));
        for (Method method : TokenGraphs.class.getDeclaredMethods()) {
            due(method + " has at most seven parameters", method.getParameterCount() <= 7, true);
            if (Modifier.isPrivate(method.getModifiers())) {
                due(method + " bears a public name", publicNames.contains(method.getName()), false);
            }
        }
    }

    private static String signature(Method method) {
        StringBuilder text = new StringBuilder();
        for (Class<?> type : method.getParameterTypes()) {
            text.append(text.length() == 0 ? "" : ",").append(type.getName());
        }
        return method.getReturnType().getName() + " " + method.getName() + "(" + text + ")";
    }

    private static void fields() throws IllegalAccessException {
        Set<String> seen = new TreeSet<>();
        int own = 0;
        for (Field field : TokenGraphs.class.getDeclaredFields()) {
            int modifiers = field.getModifiers();
            if (!Modifier.isPrivate(modifiers)) {
                due(field + "'s modifiers", Modifier.toString(modifiers), "public static final");
                seen.add(field.getName() + "=" + field.get(null));
            }
            Class<?> type = field.getType();
            if (Modifier.isStatic(modifiers)) {
                due(field + " is final", Modifier.isFinal(modifiers), true);
                due(field + " is int or long", type == int.class || type == long.class, true);
            } else {
                own++;
                Class<?> element = type.isArray() ? type.getComponentType() : type;
                due(field + " is of a primitive type", element.isPrimitive(), true);
            }
        }
        due("the constants", seen, new TreeSet<>(Arrays.asList(CONSTANTS)));
        due("at most forty fields", own <= 40, true);
    }
}
