import java.lang.reflect.Constructor;
import java.lang.reflect.Field;
import java.lang.reflect.Method;
import java.lang.reflect.Modifier;
import java.util.Arrays;
import java.util.Set;
import java.util.TreeSet;

/** The class shows the document's face and nothing beside it. */
public final class FaceTest {
    private static int wrong = 0;

    private static void due(String what, Object got, Object want) {
        if (!want.equals(got)) {
            wrong++;
            System.out.println(what + ": " + got + ", due is " + want);
        }
    }

    private static String told(Method method) {
        return method.getReturnType() + " " + method.getName() + Arrays.toString(method.getParameterTypes())
            + Arrays.toString(method.getExceptionTypes());
    }

    private static Set<String> face() {
        String one = "[int][]";
        String two = "[int, int][]";
        String three = "[int, int, int][]";
        return new TreeSet<>(Set.of("int job" + three, "int step" + three, "int change[int, int, int, int][]",
            "int put" + two, "int take" + one, "int swap" + two, "int at" + two, "int fill" + one,
            "int state[][]", "int when" + two, "int span[][]", "long late[][]", "int swapped" + two,
            "int better[][]", "int part" + two, "int bound" + one, "int low[][]",
            "long share[][class java.lang.ArithmeticException]"));
    }

    public static void main(String[] args) throws Exception {
        Class<?> face = ShopRules.class;
        due("modifiers", Modifier.toString(face.getModifiers()), "public final");
        due("NOTHING", ShopRules.NOTHING, Long.MIN_VALUE);
        Set<String> open = new TreeSet<>();
        Set<String> openNames = new TreeSet<>();
        Set<String> hiddenNames = new TreeSet<>();
        for (Method method : face.getDeclaredMethods()) {
            if (method.isSynthetic()) {
                continue;
            }
            if (Modifier.isPrivate(method.getModifiers())) {
                hiddenNames.add(method.getName());
            } else {
                due(method.getName(), Modifier.toString(method.getModifiers()), "public");
                open.add(told(method));
                openNames.add(method.getName());
            }
        }
        due("methods", open, face());
        hiddenNames.retainAll(openNames);
        due("private methods with a public name", hiddenNames, Set.of());
        for (Field field : face.getDeclaredFields()) {
            boolean isPrivate = Modifier.isPrivate(field.getModifiers());
            due(field.getName() + " is private", isPrivate, !field.getName().equals("NOTHING"));
        }
        for (Class<?> inside : face.getDeclaredClasses()) {
            int modifiers = inside.getModifiers();
            boolean isHidden = !Modifier.isPublic(modifiers) && !Modifier.isProtected(modifiers);
            due(inside + " is hidden and static", isHidden && Modifier.isStatic(modifiers), true);
        }
        due("constructors", face.getDeclaredConstructors().length, 1);
        Constructor<?> maker = face.getConstructor(int.class);
        due("constructor", Modifier.toString(maker.getModifiers()), "public");
        System.out.println(wrong == 0 ? "the face is as due" : wrong + " faults");
        if (wrong != 0) {
            System.exit(1);
        }
    }
}
