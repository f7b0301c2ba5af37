import java.lang.reflect.Constructor;
import java.lang.reflect.Field;
import java.lang.reflect.Method;
import java.lang.reflect.Modifier;
import java.util.Set;
import java.util.TreeSet;

// The class has the document's public face, and all else in it is private.
public final class EnergyGameFace {
    private static int wrong = 0;

    private static void due(String what, Object got, Object want) {
        if (!got.equals(want)) {
            wrong++;
            System.out.println(what + " is " + got + ", due is " + want);
        }
    }

    private static String nameOf(Method method) {
        StringBuilder text = new StringBuilder(method.getReturnType() + " " + method.getName());
        for (Class<?> type : method.getParameterTypes()) {
            text.append(" ").append(type);
        }
        return text.toString();
    }

    public static void main(String[] args) {
        Class<?> type = EnergyGame.class;
        due("the class's modifiers", Modifier.toString(type.getModifiers()), "public final");
        due("how many nested classes", type.getDeclaredClasses().length, 0);
        methods(type);
        constructors(type);
        fields(type);
        System.out.println(wrong == 0 ? "the face is as due" : wrong + " things are not as due");
        if (wrong != 0) {
            System.exit(1);
        }
    }

    private static void methods(Class<?> type) {
        Set<String> want = new TreeSet<>(Set.of(
            "int vertices", "int give int int", "int link int int int", "int cut int",
            "int set int int", "int edges", "int need int", "int safe int", "int hopeless",
            "int choice int", "int choices int", "int needWithout int int", "int needOf int int",
            "int greatest", "int store int int"));
        Set<String> got = new TreeSet<>();
        Set<String> publicNames = new TreeSet<>();
        for (Method method : type.getDeclaredMethods()) {
            if (!Modifier.isPrivate(method.getModifiers())) {
                got.add(nameOf(method));
                publicNames.add(method.getName());
                due("modifiers of " + nameOf(method), Modifier.toString(method.getModifiers()), "public");
            }
        }
        due("the methods that are not private", got, want);
        for (Method method : type.getDeclaredMethods()) {
            if (Modifier.isPrivate(method.getModifiers())) {
                due("a public method is named like the private " + nameOf(method),
                    publicNames.contains(method.getName()), false);
            }
        }
    }

    private static void constructors(Class<?> type) {
        Constructor<?>[] all = type.getDeclaredConstructors();
        due("how many constructors", all.length, 1);
        due("the constructor", all[0].toString(), "public EnergyGame(int)");
    }

    private static void fields(Class<?> type) {
        for (Field field : type.getDeclaredFields()) {
            due(field.getName() + " is private", Modifier.isPrivate(field.getModifiers()), true);
            if (Modifier.isStatic(field.getModifiers())) {
                due(field.getName() + " is final", Modifier.isFinal(field.getModifiers()), true);
                due(field.getName() + " is an int or a long",
                    field.getType() == int.class || field.getType() == long.class, true);
            }
        }
    }
}
