import java.lang.reflect.Constructor;
import java.lang.reflect.Field;
import java.lang.reflect.Method;
import java.lang.reflect.Modifier;
import java.util.ArrayList;
import java.util.HashSet;
import java.util.List;
import java.util.Set;

/** The public face: every constant, the constructor and every method with its throws clause, and no more. */
public final class Face {
    private static final String OUT = "IndexOutOfBoundsException";
    private static final String ARGUMENT = "IllegalArgumentException";
    private static final String STATE = "IllegalStateException";

    public static void main(String[] args) {
        Class<?> face = CargoHeel.class;
        Due.is("public and final", true, () -> Modifier.isPublic(face.getModifiers()) && Modifier.isFinal(face.getModifiers()));
        constants(face);
        constructor(face);
        methods(face);
        innerClasses(face);
        Due.end();
    }

    private static void constants(Class<?> face) {
        Set<String> due = Set.of("NONE=-1", "PLAIN=0", "COLD=1", "DANGER=2", "YARD=0", "SHIP=1", "GONE=2", "LOAD=0",
            "LAND=1", "SHIFT=2", "OPEN=3", "SHUT=4");
        Set<String> got = new HashSet<>();
        for (Field field : face.getDeclaredFields()) {
            if (Modifier.isPrivate(field.getModifiers())) continue;
            got.add(field.getName() + "=" + valueOf(field));
            Due.is(field.getName(), "public static final int",
                () -> Modifier.toString(field.getModifiers()) + " " + field.getType());
        }
        Due.is("constants", due, () -> got);
    }

    private static Object valueOf(Field field) {
        try {
            return field.get(null);
        } catch (IllegalAccessException e) {
            return "hidden";
        }
    }

    private static void constructor(Class<?> face) {
        Constructor<?>[] all = face.getDeclaredConstructors();
        Due.is("one constructor", 1, () -> all.length);
        Due.is("it is public", "public CargoHeel()", () -> all[0].toString());
    }

    private static void methods(Class<?> face) {
        Set<String> due = Set.of(
            method("boolean plug", 1, OUT, STATE),
            method("void bounds", 3, ARGUMENT),
            method("int tank", 2, OUT, ARGUMENT),
            method("int jam", 2, OUT, ARGUMENT),
            method("void crane", 4, OUT, ARGUMENT),
            method("int box", 5, OUT, ARGUMENT, STATE),
            method("boolean paper", 2, OUT),
            method("int skip", 1, OUT, STATE),
            method("int order", 3, ARGUMENT, OUT, STATE),
            method("int drop", 1, OUT),
            method("int pass", 1, ARGUMENT, STATE),
            method("int leave", 0, STATE),
            method("int hour", 0),
            method("int port", 0),
            method("int cost", 0),
            method("int of", 2, OUT, ARGUMENT),
            method("int at", 1, OUT),
            method("int inYard", 2, OUT),
            method("int hatch", 1, OUT),
            method("int moment", 1, ARGUMENT),
            method("int momentAnew", 1, ARGUMENT),
            method("int bars", 0),
            method("int dig", 1, OUT, STATE),
            method("int orders", 0),
            method("boolean can", 2, OUT),
            method("boolean may", 2, OUT));
        Set<String> got = new HashSet<>();
        List<String> hidden = new ArrayList<>();
        Set<String> names = new HashSet<>();
        for (Method method : face.getDeclaredMethods()) {
            if (Modifier.isPrivate(method.getModifiers())) {
                hidden.add(method.getName());
                continue;
            }
            names.add(method.getName());
            String[] thrown = new String[method.getExceptionTypes().length];
            for (int i = 0; i < thrown.length; i++) thrown[i] = method.getExceptionTypes()[i].getSimpleName();
            Due.is(method.getName(), true, () -> method.getModifiers() == Modifier.PUBLIC);
            got.add(method(method.getReturnType() + " " + method.getName(), method.getParameterCount(), thrown));
        }
        Due.is("methods", due, () -> got);
        for (String name : hidden) Due.is("no public name for the private " + name, false, () -> names.contains(name));
    }

    private static String method(String name, int parameters, String... thrown) {
        return name + "/" + parameters + " throws " + String.join(", ", thrown);
    }

    private static void innerClasses(Class<?> face) {
        for (Class<?> inner : face.getDeclaredClasses()) {
            Due.is(inner.getName() + " is no part of the face", false,
                () -> Modifier.isPublic(inner.getModifiers()) || Modifier.isProtected(inner.getModifiers()));
        }
    }
}
