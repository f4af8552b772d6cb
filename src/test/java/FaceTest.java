import java.lang.reflect.Constructor;
import java.lang.reflect.Field;
import java.lang.reflect.Method;
import java.lang.reflect.Modifier;
import java.util.Arrays;
import java.util.HashSet;
import java.util.Set;
import java.util.TreeSet;

/** The class has the public face of the document and keeps to what LANGUAGE.md says of its members. */
public final class FaceTest {
    private static final String[] FACE = {
        "clear()", "symbol(int)", "number(int)", "add(int,int)", "subtract(int,int)", "multiply(int,int)",
        "power(int,int)", "derive(int,int)", "substitute(int,int,int)", "expressions()", "same(int,int)",
        "degree(int)", "degreeIn(int,int)", "coefficient(int,int)", "terms(int)", "term(int,int)",
        "value(int,int,int,int)", "kinds()"};

    private static int wrong = 0;

    private static void check(boolean holds, String what) {
        if (!holds) {
            wrong++;
            System.out.println("does not hold: " + what);
        }
    }

    private static boolean isNumberType(Class<?> type) {
        return type == int.class || type == long.class || type == short.class || type == byte.class
            || type == char.class || type == boolean.class;
    }

    private static void checkClass(Class<?> type) {
        check(Modifier.isPublic(type.getModifiers()) && Modifier.isFinal(type.getModifiers()), "public and final");
        check(type.getPackageName().isEmpty(), "no package");
        check(type.getSuperclass() == Object.class && type.getInterfaces().length == 0, "no parent");
        check(type.getDeclaredClasses().length == 0, "no nested class");
        Constructor<?>[] constructors = type.getDeclaredConstructors();
        check(constructors.length == 1 && constructors[0].getParameterCount() == 0
            && Modifier.isPublic(constructors[0].getModifiers()), "one public constructor without parameters");
    }

    private static void checkMethods(Class<?> type) {
        Set<String> publicOnes = new TreeSet<>();
        Set<String> publicNames = new HashSet<>();
        for (Method method : type.getDeclaredMethods()) {
            if (Modifier.isPublic(method.getModifiers())) {
                String parameters = Arrays.toString(method.getParameterTypes());
                String listed = parameters.substring(1, parameters.length() - 1).replace(" ", "");
                publicOnes.add(method.getName() + "(" + listed + ")");
                publicNames.add(method.getName());
                check(method.getReturnType() == int.class, method.getName() + " answers an int");
                check(!Modifier.isStatic(method.getModifiers()), method.getName() + " is not static");
            }
        }
        check(publicOnes.equals(new TreeSet<>(Arrays.asList(FACE))), "the public methods are those of the document");
        for (Method method : type.getDeclaredMethods()) {
            if (!Modifier.isPublic(method.getModifiers())) {
                check(Modifier.isPrivate(method.getModifiers()), method.getName() + " is public or private");
                check(!publicNames.contains(method.getName()), method.getName() + " has no public name");
                check(method.getParameterCount() <= 7, method.getName() + " has at most seven parameters");
            }
        }
    }

    private static void checkFields(Class<?> type) {
        for (Field field : type.getDeclaredFields()) {
            Class<?> held = field.getType();
            check(Modifier.isPrivate(field.getModifiers()), field.getName() + " is private");
            check(isNumberType(held) || held.isArray() && isNumberType(held.getComponentType()),
                field.getName() + " is a number or an array of numbers");
            if (Modifier.isStatic(field.getModifiers())) {
                check(Modifier.isFinal(field.getModifiers()) && (held == int.class || held == long.class),
                    field.getName() + " is a constant");
            }
        }
    }

    public static void main(String[] args) {
        Class<?> type = SymbolicForms.class;
        checkClass(type);
        checkMethods(type);
        checkFields(type);
        System.out.println(wrong == 0 ? "the face is as due" : wrong + " things are not as due");
        if (wrong != 0) {
            System.exit(1);
        }
    }
}
